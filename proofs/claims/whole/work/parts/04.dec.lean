theorem dX8_at_4 : decode cX8_at 4 = .ok (.iconst (-1), 1) := by decide +kernel
theorem dX8_at_5 : decode cX8_at 5 = .ok (.ireturn, 1) := by decide +kernel
theorem dX8_at_6 : decode cX8_at 6 = .ok (.iload_n 1, 1) := by decide +kernel
theorem dX8_at_7 : decode cX8_at 7 = .ok (.istore_n 2, 1) := by decide +kernel
theorem dX8_at_8 : decode cX8_at 8 = .ok (.iconst 0, 1) := by decide +kernel
theorem dX8_at_9 : decode cX8_at 9 = .ok (.istore_n 3, 1) := by decide +kernel
theorem dX8_at_10 : decode cX8_at 10 = .ok (.iload_n 3, 1) := by decide +kernel
theorem dX8_at_11 : decode cX8_at 11 = .ok (.bipush 16, 2) := by decide +kernel
theorem dX8_at_13 : decode cX8_at 13 = .ok (.if_icmp .ge 47, 3) := by decide +kernel
theorem dX8_at_16 : decode cX8_at 16 = .ok (.aload_n 0, 1) := by decide +kernel
theorem dX8_at_17 : decode cX8_at 17 = .ok (.getfield 11, 3) := by decide +kernel
theorem dX8_at_20 : decode cX8_at 20 = .ok (.iload_n 3, 1) := by decide +kernel
theorem dX8_at_21 : decode cX8_at 21 = .ok (.laload, 1) := by decide +kernel
theorem dX8_at_22 : decode cX8_at 22 = .ok (.invokestatic 15, 3) := by decide +kernel
theorem dX8_at_25 : decode cX8_at 25 = .ok (.istore 4, 2) := by decide +kernel
theorem dX8_at_27 : decode cX8_at 27 = .ok (.iload_n 2, 1) := by decide +kernel
theorem dX8_at_28 : decode cX8_at 28 = .ok (.iload 4, 2) := by decide +kernel
theorem dX8_at_30 : decode cX8_at 30 = .ok (.if_icmp .ge 19, 3) := by decide +kernel
theorem dX8_at_33 : decode cX8_at 33 = .ok (.bipush 64, 2) := by decide +kernel
theorem dX8_at_35 : decode cX8_at 35 = .ok (.iload_n 3, 1) := by decide +kernel
theorem dX8_at_36 : decode cX8_at 36 = .ok (.imul, 1) := by decide +kernel
theorem dX8_at_37 : decode cX8_at 37 = .ok (.aload_n 0, 1) := by decide +kernel
theorem dX8_at_38 : decode cX8_at 38 = .ok (.getfield 11, 3) := by decide +kernel
theorem dX8_at_41 : decode cX8_at 41 = .ok (.iload_n 3, 1) := by decide +kernel
theorem dX8_at_42 : decode cX8_at 42 = .ok (.laload, 1) := by decide +kernel
theorem dX8_at_43 : decode cX8_at 43 = .ok (.iload_n 2, 1) := by decide +kernel
theorem dX8_at_44 : decode cX8_at 44 = .ok (.invokestatic 21, 3) := by decide +kernel
theorem dX8_at_47 : decode cX8_at 47 = .ok (.iadd, 1) := by decide +kernel
theorem dX8_at_48 : decode cX8_at 48 = .ok (.ireturn, 1) := by decide +kernel
theorem dX8_at_49 : decode cX8_at 49 = .ok (.iload_n 2, 1) := by decide +kernel
theorem dX8_at_50 : decode cX8_at 50 = .ok (.iload 4, 2) := by decide +kernel
theorem dX8_at_52 : decode cX8_at 52 = .ok (.isub, 1) := by decide +kernel
theorem dX8_at_53 : decode cX8_at 53 = .ok (.istore_n 2, 1) := by decide +kernel
theorem dX8_at_54 : decode cX8_at 54 = .ok (.iinc 3 1, 3) := by decide +kernel
theorem dX8_at_57 : decode cX8_at 57 = .ok (.goto (-47), 3) := by decide +kernel
theorem dX8_at_60 : decode cX8_at 60 = .ok (.iconst (-1), 1) := by decide +kernel
theorem dX8_at_61 : decode cX8_at 61 = .ok (.ireturn, 1) := by decide +kernel
theorem dX8_placeInWord_0 : decode cX8_placeInWord 0 = .ok (.lload_n 0, 1) := by decide +kernel
theorem dX8_placeInWord_1 : decode cX8_placeInWord 1 = .ok (.lstore_n 3, 1) := by decide +kernel
theorem dX8_placeInWord_2 : decode cX8_placeInWord 2 = .ok (.iconst 0, 1) := by decide +kernel
theorem dX8_placeInWord_3 : decode cX8_placeInWord 3 = .ok (.istore 5, 2) := by decide +kernel
theorem dX8_placeInWord_5 : decode cX8_placeInWord 5 = .ok (.iload 5, 2) := by decide +kernel
theorem dX8_placeInWord_7 : decode cX8_placeInWord 7 = .ok (.iload_n 2, 1) := by decide +kernel
theorem dX8_placeInWord_8 : decode cX8_placeInWord 8 = .ok (.if_icmp .ge 22, 3) := by decide +kernel
theorem dX8_placeInWord_11 : decode cX8_placeInWord 11 = .ok (.iload 5, 2) := by decide +kernel
theorem dX8_placeInWord_13 : decode cX8_placeInWord 13 = .ok (.bipush 64, 2) := by decide +kernel
theorem dX8_placeInWord_15 : decode cX8_placeInWord 15 = .ok (.if_icmp .ge 15, 3) := by decide +kernel
theorem dX8_placeInWord_18 : decode cX8_placeInWord 18 = .ok (.lload_n 3, 1) := by decide +kernel
theorem dX8_placeInWord_19 : decode cX8_placeInWord 19 = .ok (.lload_n 3, 1) := by decide +kernel
theorem dX8_placeInWord_20 : decode cX8_placeInWord 20 = .ok (.lconst 1, 1) := by decide +kernel
theorem dX8_placeInWord_21 : decode cX8_placeInWord 21 = .ok (.lsub, 1) := by decide +kernel
theorem dX8_placeInWord_22 : decode cX8_placeInWord 22 = .ok (.land, 1) := by decide +kernel
theorem dX8_placeInWord_23 : decode cX8_placeInWord 23 = .ok (.lstore_n 3, 1) := by decide +kernel
theorem dX8_placeInWord_24 : decode cX8_placeInWord 24 = .ok (.iinc 5 1, 3) := by decide +kernel
theorem dX8_placeInWord_27 : decode cX8_placeInWord 27 = .ok (.goto (-22), 3) := by decide +kernel
theorem dX8_placeInWord_30 : decode cX8_placeInWord 30 = .ok (.lload_n 3, 1) := by decide +kernel
theorem dX8_placeInWord_31 : decode cX8_placeInWord 31 = .ok (.invokestatic 25, 3) := by decide +kernel
theorem dX8_placeInWord_34 : decode cX8_placeInWord 34 = .ok (.ireturn, 1) := by decide +kernel
theorem dX8_where_0 : decode cX8_where 0 = .ok (.iload_n 1, 1) := by decide +kernel
theorem dX8_where_1 : decode cX8_where 1 = .ok (.ifCond .lt 18, 3) := by decide +kernel
theorem dX8_where_4 : decode cX8_where 4 = .ok (.iload_n 1, 1) := by decide +kernel
theorem dX8_where_5 : decode cX8_where 5 = .ok (.bipush 6, 2) := by decide +kernel
theorem dX8_where_7 : decode cX8_where 7 = .ok (.if_icmp .ge 12, 3) := by decide +kernel
theorem dX8_where_10 : decode cX8_where 10 = .ok (.getstatic 28, 3) := by decide +kernel
theorem dX8_where_13 : decode cX8_where 13 = .ok (.iload_n 1, 1) := by decide +kernel
theorem dX8_where_14 : decode cX8_where 14 = .ok (.laload, 1) := by decide +kernel
theorem dX8_where_15 : decode cX8_where 15 = .ok (.lstore_n 3, 1) := by decide +kernel
theorem dX8_where_16 : decode cX8_where 16 = .ok (.goto 23, 3) := by decide +kernel
theorem dX8_where_19 : decode cX8_where 19 = .ok (.iload_n 0, 1) := by decide +kernel
theorem dX8_where_20 : decode cX8_where 20 = .ok (.iload_n 1, 1) := by decide +kernel
theorem dX8_where_21 : decode cX8_where 21 = .ok (.bipush 6, 2) := by decide +kernel
theorem dX8_where_23 : decode cX8_where 23 = .ok (.isub, 1) := by decide +kernel
theorem dX8_where_24 : decode cX8_where 24 = .ok (.ishr, 1) := by decide +kernel
theorem dX8_where_25 : decode cX8_where 25 = .ok (.iconst 1, 1) := by decide +kernel
theorem dX8_where_26 : decode cX8_where 26 = .ok (.iand, 1) := by decide +kernel
theorem dX8_where_27 : decode cX8_where 27 = .ok (.iconst 1, 1) := by decide +kernel
theorem dX8_where_28 : decode cX8_where 28 = .ok (.if_icmp .ne 9, 3) := by decide +kernel
theorem dX8_where_31 : decode cX8_where 31 = .ok (.ldc2_w 31, 3) := by decide +kernel
theorem dX8_where_34 : decode cX8_where 34 = .ok (.goto 4, 3) := by decide +kernel
theorem dX8_where_37 : decode cX8_where 37 = .ok (.lconst 0, 1) := by decide +kernel
theorem dX8_where_38 : decode cX8_where 38 = .ok (.lstore_n 3, 1) := by decide +kernel
theorem dX8_where_39 : decode cX8_where 39 = .ok (.iload_n 2, 1) := by decide +kernel
theorem dX8_where_40 : decode cX8_where 40 = .ok (.iconst 1, 1) := by decide +kernel
theorem dX8_where_41 : decode cX8_where 41 = .ok (.if_icmp .ne 7, 3) := by decide +kernel
theorem dX8_where_44 : decode cX8_where 44 = .ok (.lload_n 3, 1) := by decide +kernel
theorem dX8_where_45 : decode cX8_where 45 = .ok (.goto 8, 3) := by decide +kernel
theorem dX8_where_48 : decode cX8_where 48 = .ok (.lload_n 3, 1) := by decide +kernel
theorem dX8_where_49 : decode cX8_where 49 = .ok (.ldc2_w 31, 3) := by decide +kernel
theorem dX8_where_52 : decode cX8_where 52 = .ok (.lxor, 1) := by decide +kernel
theorem dX8_where_53 : decode cX8_where 53 = .ok (.lreturn, 1) := by decide +kernel
theorem dX8_any_0 : decode cX8_any 0 = .ok (.iconst 0, 1) := by decide +kernel
theorem dX8_any_1 : decode cX8_any 1 = .ok (.istore_n 3, 1) := by decide +kernel
theorem dX8_any_2 : decode cX8_any 2 = .ok (.iload_n 3, 1) := by decide +kernel
theorem dX8_any_3 : decode cX8_any 3 = .ok (.bipush 16, 2) := by decide +kernel
theorem dX8_any_5 : decode cX8_any 5 = .ok (.if_icmp .ge 40, 3) := by decide +kernel
theorem dX8_any_8 : decode cX8_any 8 = .ok (.aload_n 0, 1) := by decide +kernel
theorem dX8_any_9 : decode cX8_any 9 = .ok (.getfield 11, 3) := by decide +kernel
theorem dX8_any_12 : decode cX8_any 12 = .ok (.iload_n 3, 1) := by decide +kernel
theorem dX8_any_13 : decode cX8_any 13 = .ok (.laload, 1) := by decide +kernel
theorem dX8_any_14 : decode cX8_any 14 = .ok (.lconst 0, 1) := by decide +kernel
theorem dX8_any_15 : decode cX8_any 15 = .ok (.lcmp, 1) := by decide +kernel
theorem dX8_any_16 : decode cX8_any 16 = .ok (.ifCond .eq 23, 3) := by decide +kernel
theorem dX8_any_19 : decode cX8_any 19 = .ok (.aload_n 0, 1) := by decide +kernel
theorem dX8_any_20 : decode cX8_any 20 = .ok (.getfield 11, 3) := by decide +kernel
theorem dX8_any_23 : decode cX8_any 23 = .ok (.iload_n 3, 1) := by decide +kernel
theorem dX8_any_24 : decode cX8_any 24 = .ok (.laload, 1) := by decide +kernel
theorem dX8_any_25 : decode cX8_any 25 = .ok (.iload_n 3, 1) := by decide +kernel
theorem dX8_any_26 : decode cX8_any 26 = .ok (.iload_n 1, 1) := by decide +kernel
theorem dX8_any_27 : decode cX8_any 27 = .ok (.iload_n 2, 1) := by decide +kernel
theorem dX8_any_28 : decode cX8_any 28 = .ok (.invokestatic 33, 3) := by decide +kernel
theorem dX8_any_31 : decode cX8_any 31 = .ok (.land, 1) := by decide +kernel
theorem dX8_any_32 : decode cX8_any 32 = .ok (.lconst 0, 1) := by decide +kernel
theorem dX8_any_33 : decode cX8_any 33 = .ok (.lcmp, 1) := by decide +kernel
theorem dX8_any_34 : decode cX8_any 34 = .ok (.ifCond .eq 5, 3) := by decide +kernel
theorem dX8_any_37 : decode cX8_any 37 = .ok (.iconst 1, 1) := by decide +kernel
theorem dX8_any_38 : decode cX8_any 38 = .ok (.ireturn, 1) := by decide +kernel
theorem dX8_any_39 : decode cX8_any 39 = .ok (.iinc 3 1, 3) := by decide +kernel
theorem dX8_any_42 : decode cX8_any 42 = .ok (.goto (-40), 3) := by decide +kernel
theorem dX8_any_45 : decode cX8_any 45 = .ok (.iconst 0, 1) := by decide +kernel
theorem dX8_any_46 : decode cX8_any 46 = .ok (.ireturn, 1) := by decide +kernel
theorem dX8_keep_0 : decode cX8_keep 0 = .ok (.iconst 0, 1) := by decide +kernel
theorem dX8_keep_1 : decode cX8_keep 1 = .ok (.istore_n 3, 1) := by decide +kernel
theorem dX8_keep_2 : decode cX8_keep 2 = .ok (.iload_n 3, 1) := by decide +kernel
theorem dX8_keep_3 : decode cX8_keep 3 = .ok (.bipush 16, 2) := by decide +kernel
theorem dX8_keep_5 : decode cX8_keep 5 = .ok (.if_icmp .ge 24, 3) := by decide +kernel
theorem dX8_keep_8 : decode cX8_keep 8 = .ok (.aload_n 0, 1) := by decide +kernel
theorem dX8_keep_9 : decode cX8_keep 9 = .ok (.getfield 11, 3) := by decide +kernel
theorem dX8_keep_12 : decode cX8_keep 12 = .ok (.iload_n 3, 1) := by decide +kernel
theorem dX8_keep_13 : decode cX8_keep 13 = .ok (.dup2, 1) := by decide +kernel
theorem dX8_keep_14 : decode cX8_keep 14 = .ok (.laload, 1) := by decide +kernel
theorem dX8_keep_15 : decode cX8_keep 15 = .ok (.iload_n 3, 1) := by decide +kernel
theorem dX8_keep_16 : decode cX8_keep 16 = .ok (.iload_n 1, 1) := by decide +kernel
theorem dX8_keep_17 : decode cX8_keep 17 = .ok (.iload_n 2, 1) := by decide +kernel
theorem dX8_keep_18 : decode cX8_keep 18 = .ok (.invokestatic 33, 3) := by decide +kernel
theorem dX8_keep_21 : decode cX8_keep 21 = .ok (.land, 1) := by decide +kernel
theorem dX8_keep_22 : decode cX8_keep 22 = .ok (.lastore, 1) := by decide +kernel
theorem dX8_keep_23 : decode cX8_keep 23 = .ok (.iinc 3 1, 3) := by decide +kernel
theorem dX8_keep_26 : decode cX8_keep 26 = .ok (.goto (-24), 3) := by decide +kernel
theorem dX8_keep_29 : decode cX8_keep 29 = .ok (.return_, 1) := by decide +kernel
theorem dX8_keepBoth_0 : decode cX8_keepBoth 0 = .ok (.iconst 0, 1) := by decide +kernel
theorem dX8_keepBoth_1 : decode cX8_keepBoth 1 = .ok (.istore_n 2, 1) := by decide +kernel
theorem dX8_keepBoth_2 : decode cX8_keepBoth 2 = .ok (.iload_n 2, 1) := by decide +kernel
theorem dX8_keepBoth_3 : decode cX8_keepBoth 3 = .ok (.bipush 16, 2) := by decide +kernel
theorem dX8_keepBoth_5 : decode cX8_keepBoth 5 = .ok (.if_icmp .ge 24, 3) := by decide +kernel
theorem dX8_keepBoth_8 : decode cX8_keepBoth 8 = .ok (.aload_n 0, 1) := by decide +kernel
theorem dX8_keepBoth_9 : decode cX8_keepBoth 9 = .ok (.getfield 11, 3) := by decide +kernel
theorem dX8_keepBoth_12 : decode cX8_keepBoth 12 = .ok (.iload_n 2, 1) := by decide +kernel
theorem dX8_keepBoth_13 : decode cX8_keepBoth 13 = .ok (.dup2, 1) := by decide +kernel
theorem dX8_keepBoth_14 : decode cX8_keepBoth 14 = .ok (.laload, 1) := by decide +kernel
theorem dX8_keepBoth_15 : decode cX8_keepBoth 15 = .ok (.aload_n 1, 1) := by decide +kernel
theorem dX8_keepBoth_16 : decode cX8_keepBoth 16 = .ok (.getfield 11, 3) := by decide +kernel
theorem dX8_keepBoth_19 : decode cX8_keepBoth 19 = .ok (.iload_n 2, 1) := by decide +kernel
theorem dX8_keepBoth_20 : decode cX8_keepBoth 20 = .ok (.laload, 1) := by decide +kernel
theorem dX8_keepBoth_21 : decode cX8_keepBoth 21 = .ok (.land, 1) := by decide +kernel
theorem dX8_keepBoth_22 : decode cX8_keepBoth 22 = .ok (.lastore, 1) := by decide +kernel
theorem dX8_keepBoth_23 : decode cX8_keepBoth 23 = .ok (.iinc 2 1, 3) := by decide +kernel
theorem dX8_keepBoth_26 : decode cX8_keepBoth 26 = .ok (.goto (-24), 3) := by decide +kernel
theorem dX8_keepBoth_29 : decode cX8_keepBoth 29 = .ok (.return_, 1) := by decide +kernel
theorem dX8_dropNeither_0 : decode cX8_dropNeither 0 = .ok (.iconst 0, 1) := by decide +kernel
theorem dX8_dropNeither_1 : decode cX8_dropNeither 1 = .ok (.istore_n 3, 1) := by decide +kernel
theorem dX8_dropNeither_2 : decode cX8_dropNeither 2 = .ok (.iload_n 3, 1) := by decide +kernel
theorem dX8_dropNeither_3 : decode cX8_dropNeither 3 = .ok (.bipush 16, 2) := by decide +kernel
theorem dX8_dropNeither_5 : decode cX8_dropNeither 5 = .ok (.if_icmp .ge 31, 3) := by decide +kernel
theorem dX8_dropNeither_8 : decode cX8_dropNeither 8 = .ok (.aload_n 0, 1) := by decide +kernel
theorem dX8_dropNeither_9 : decode cX8_dropNeither 9 = .ok (.getfield 11, 3) := by decide +kernel
theorem dX8_dropNeither_12 : decode cX8_dropNeither 12 = .ok (.iload_n 3, 1) := by decide +kernel
theorem dX8_dropNeither_13 : decode cX8_dropNeither 13 = .ok (.dup2, 1) := by decide +kernel
theorem dX8_dropNeither_14 : decode cX8_dropNeither 14 = .ok (.laload, 1) := by decide +kernel
theorem dX8_dropNeither_15 : decode cX8_dropNeither 15 = .ok (.iload_n 3, 1) := by decide +kernel
theorem dX8_dropNeither_16 : decode cX8_dropNeither 16 = .ok (.iload_n 1, 1) := by decide +kernel
theorem dX8_dropNeither_17 : decode cX8_dropNeither 17 = .ok (.iconst 1, 1) := by decide +kernel
theorem dX8_dropNeither_18 : decode cX8_dropNeither 18 = .ok (.invokestatic 33, 3) := by decide +kernel
theorem dX8_dropNeither_21 : decode cX8_dropNeither 21 = .ok (.iload_n 3, 1) := by decide +kernel
theorem dX8_dropNeither_22 : decode cX8_dropNeither 22 = .ok (.iload_n 2, 1) := by decide +kernel
theorem dX8_dropNeither_23 : decode cX8_dropNeither 23 = .ok (.iconst 1, 1) := by decide +kernel
theorem dX8_dropNeither_24 : decode cX8_dropNeither 24 = .ok (.invokestatic 33, 3) := by decide +kernel
theorem dX8_dropNeither_27 : decode cX8_dropNeither 27 = .ok (.lor, 1) := by decide +kernel
theorem dX8_dropNeither_28 : decode cX8_dropNeither 28 = .ok (.land, 1) := by decide +kernel
theorem dX8_dropNeither_29 : decode cX8_dropNeither 29 = .ok (.lastore, 1) := by decide +kernel
theorem dX8_dropNeither_30 : decode cX8_dropNeither 30 = .ok (.iinc 3 1, 3) := by decide +kernel
theorem dX8_dropNeither_33 : decode cX8_dropNeither 33 = .ok (.goto (-31), 3) := by decide +kernel
theorem dX8_dropNeither_36 : decode cX8_dropNeither 36 = .ok (.return_, 1) := by decide +kernel
theorem dX8_blur_0 : decode cX8_blur 0 = .ok (.iload_n 1, 1) := by decide +kernel
theorem dX8_blur_1 : decode cX8_blur 1 = .ok (.bipush 6, 2) := by decide +kernel
theorem dX8_blur_3 : decode cX8_blur 3 = .ok (.if_icmp .ge 7, 3) := by decide +kernel
theorem dX8_blur_6 : decode cX8_blur 6 = .ok (.iconst 1, 1) := by decide +kernel
theorem dX8_blur_7 : decode cX8_blur 7 = .ok (.goto 4, 3) := by decide +kernel
theorem dX8_blur_10 : decode cX8_blur 10 = .ok (.iconst 0, 1) := by decide +kernel
theorem dX8_blur_11 : decode cX8_blur 11 = .ok (.istore_n 2, 1) := by decide +kernel
theorem dX8_blur_12 : decode cX8_blur 12 = .ok (.iload_n 2, 1) := by decide +kernel
theorem dX8_blur_13 : decode cX8_blur 13 = .ok (.ifCond .eq 7, 3) := by decide +kernel
theorem dX8_blur_16 : decode cX8_blur 16 = .ok (.iconst 0, 1) := by decide +kernel
theorem dX8_blur_17 : decode cX8_blur 17 = .ok (.goto 9, 3) := by decide +kernel
theorem dX8_blur_20 : decode cX8_blur 20 = .ok (.iconst 1, 1) := by decide +kernel
theorem dX8_blur_21 : decode cX8_blur 21 = .ok (.iload_n 1, 1) := by decide +kernel
theorem dX8_blur_22 : decode cX8_blur 22 = .ok (.bipush 6, 2) := by decide +kernel
theorem dX8_blur_24 : decode cX8_blur 24 = .ok (.isub, 1) := by decide +kernel
theorem dX8_blur_25 : decode cX8_blur 25 = .ok (.ishl, 1) := by decide +kernel
theorem dX8_blur_26 : decode cX8_blur 26 = .ok (.istore_n 3, 1) := by decide +kernel
theorem dX8_blur_27 : decode cX8_blur 27 = .ok (.iconst 0, 1) := by decide +kernel
theorem dX8_blur_28 : decode cX8_blur 28 = .ok (.istore 4, 2) := by decide +kernel
theorem dX8_blur_30 : decode cX8_blur 30 = .ok (.iload 4, 2) := by decide +kernel
theorem dX8_blur_32 : decode cX8_blur 32 = .ok (.bipush 16, 2) := by decide +kernel
theorem dX8_blur_34 : decode cX8_blur 34 = .ok (.if_icmp .ge 124, 3) := by decide +kernel
theorem dX8_blur_37 : decode cX8_blur 37 = .ok (.iload 4, 2) := by decide +kernel
theorem dX8_blur_39 : decode cX8_blur 39 = .ok (.iload_n 3, 1) := by decide +kernel
theorem dX8_blur_40 : decode cX8_blur 40 = .ok (.ixor, 1) := by decide +kernel
theorem dX8_blur_41 : decode cX8_blur 41 = .ok (.istore 5, 2) := by decide +kernel
theorem dX8_blur_43 : decode cX8_blur 43 = .ok (.iload_n 2, 1) := by decide +kernel
theorem dX8_blur_44 : decode cX8_blur 44 = .ok (.ifCond .eq 63, 3) := by decide +kernel
theorem dX8_blur_47 : decode cX8_blur 47 = .ok (.aload_n 0, 1) := by decide +kernel
theorem dX8_blur_48 : decode cX8_blur 48 = .ok (.getfield 11, 3) := by decide +kernel
theorem dX8_blur_51 : decode cX8_blur 51 = .ok (.iload 4, 2) := by decide +kernel
theorem dX8_blur_53 : decode cX8_blur 53 = .ok (.laload, 1) := by decide +kernel
theorem dX8_blur_54 : decode cX8_blur 54 = .ok (.iload 4, 2) := by decide +kernel
theorem dX8_blur_56 : decode cX8_blur 56 = .ok (.iload_n 1, 1) := by decide +kernel
theorem dX8_blur_57 : decode cX8_blur 57 = .ok (.iconst 1, 1) := by decide +kernel
theorem dX8_blur_58 : decode cX8_blur 58 = .ok (.invokestatic 33, 3) := by decide +kernel
theorem dX8_blur_61 : decode cX8_blur 61 = .ok (.land, 1) := by decide +kernel
theorem dX8_blur_62 : decode cX8_blur 62 = .ok (.lstore 6, 2) := by decide +kernel
theorem dX8_blur_64 : decode cX8_blur 64 = .ok (.aload_n 0, 1) := by decide +kernel
theorem dX8_blur_65 : decode cX8_blur 65 = .ok (.getfield 11, 3) := by decide +kernel
theorem dX8_blur_68 : decode cX8_blur 68 = .ok (.iload 4, 2) := by decide +kernel
theorem dX8_blur_70 : decode cX8_blur 70 = .ok (.laload, 1) := by decide +kernel
theorem dX8_blur_71 : decode cX8_blur 71 = .ok (.iload 4, 2) := by decide +kernel
theorem dX8_blur_73 : decode cX8_blur 73 = .ok (.iload_n 1, 1) := by decide +kernel
theorem dX8_blur_74 : decode cX8_blur 74 = .ok (.iconst 0, 1) := by decide +kernel
theorem dX8_blur_75 : decode cX8_blur 75 = .ok (.invokestatic 33, 3) := by decide +kernel
theorem dX8_blur_78 : decode cX8_blur 78 = .ok (.land, 1) := by decide +kernel
theorem dX8_blur_79 : decode cX8_blur 79 = .ok (.lstore 8, 2) := by decide +kernel
theorem dX8_blur_81 : decode cX8_blur 81 = .ok (.aload_n 0, 1) := by decide +kernel
theorem dX8_blur_82 : decode cX8_blur 82 = .ok (.getfield 11, 3) := by decide +kernel
theorem dX8_blur_85 : decode cX8_blur 85 = .ok (.iload 4, 2) := by decide +kernel
theorem dX8_blur_87 : decode cX8_blur 87 = .ok (.dup2, 1) := by decide +kernel
theorem dX8_blur_88 : decode cX8_blur 88 = .ok (.laload, 1) := by decide +kernel
theorem dX8_blur_89 : decode cX8_blur 89 = .ok (.lload 6, 2) := by decide +kernel
theorem dX8_blur_91 : decode cX8_blur 91 = .ok (.iconst 1, 1) := by decide +kernel
theorem dX8_blur_92 : decode cX8_blur 92 = .ok (.iload_n 1, 1) := by decide +kernel
theorem dX8_blur_93 : decode cX8_blur 93 = .ok (.ishl, 1) := by decide +kernel
theorem dX8_blur_94 : decode cX8_blur 94 = .ok (.lushr, 1) := by decide +kernel
theorem dX8_blur_95 : decode cX8_blur 95 = .ok (.lload 8, 2) := by decide +kernel
theorem dX8_blur_97 : decode cX8_blur 97 = .ok (.iconst 1, 1) := by decide +kernel
theorem dX8_blur_98 : decode cX8_blur 98 = .ok (.iload_n 1, 1) := by decide +kernel
theorem dX8_blur_99 : decode cX8_blur 99 = .ok (.ishl, 1) := by decide +kernel
theorem dX8_blur_100 : decode cX8_blur 100 = .ok (.lshl, 1) := by decide +kernel
theorem dX8_blur_101 : decode cX8_blur 101 = .ok (.lor, 1) := by decide +kernel
theorem dX8_blur_102 : decode cX8_blur 102 = .ok (.lor, 1) := by decide +kernel
theorem dX8_blur_103 : decode cX8_blur 103 = .ok (.lastore, 1) := by decide +kernel
theorem dX8_blur_104 : decode cX8_blur 104 = .ok (.goto 48, 3) := by decide +kernel
theorem dX8_blur_107 : decode cX8_blur 107 = .ok (.iload 5, 2) := by decide +kernel
theorem dX8_blur_109 : decode cX8_blur 109 = .ok (.iload 4, 2) := by decide +kernel
theorem dX8_blur_111 : decode cX8_blur 111 = .ok (.if_icmp .le 41, 3) := by decide +kernel
theorem dX8_blur_114 : decode cX8_blur 114 = .ok (.iload 5, 2) := by decide +kernel
theorem dX8_blur_116 : decode cX8_blur 116 = .ok (.bipush 16, 2) := by decide +kernel
theorem dX8_blur_118 : decode cX8_blur 118 = .ok (.if_icmp .ge 34, 3) := by decide +kernel
theorem dX8_blur_121 : decode cX8_blur 121 = .ok (.aload_n 0, 1) := by decide +kernel
theorem dX8_blur_122 : decode cX8_blur 122 = .ok (.getfield 11, 3) := by decide +kernel
theorem dX8_blur_125 : decode cX8_blur 125 = .ok (.iload 4, 2) := by decide +kernel
theorem dX8_blur_127 : decode cX8_blur 127 = .ok (.dup2, 1) := by decide +kernel
theorem dX8_blur_128 : decode cX8_blur 128 = .ok (.laload, 1) := by decide +kernel
theorem dX8_blur_129 : decode cX8_blur 129 = .ok (.aload_n 0, 1) := by decide +kernel
theorem dX8_blur_130 : decode cX8_blur 130 = .ok (.getfield 11, 3) := by decide +kernel
theorem dX8_blur_133 : decode cX8_blur 133 = .ok (.iload 5, 2) := by decide +kernel
theorem dX8_blur_135 : decode cX8_blur 135 = .ok (.laload, 1) := by decide +kernel
theorem dX8_blur_136 : decode cX8_blur 136 = .ok (.lor, 1) := by decide +kernel
theorem dX8_blur_137 : decode cX8_blur 137 = .ok (.lastore, 1) := by decide +kernel
theorem dX8_blur_138 : decode cX8_blur 138 = .ok (.aload_n 0, 1) := by decide +kernel
theorem dX8_blur_139 : decode cX8_blur 139 = .ok (.getfield 11, 3) := by decide +kernel
theorem dX8_blur_142 : decode cX8_blur 142 = .ok (.iload 5, 2) := by decide +kernel
theorem dX8_blur_144 : decode cX8_blur 144 = .ok (.aload_n 0, 1) := by decide +kernel
theorem dX8_blur_145 : decode cX8_blur 145 = .ok (.getfield 11, 3) := by decide +kernel
theorem dX8_blur_148 : decode cX8_blur 148 = .ok (.iload 4, 2) := by decide +kernel
theorem dX8_blur_150 : decode cX8_blur 150 = .ok (.laload, 1) := by decide +kernel
theorem dX8_blur_151 : decode cX8_blur 151 = .ok (.lastore, 1) := by decide +kernel
theorem dX8_blur_152 : decode cX8_blur 152 = .ok (.iinc 4 1, 3) := by decide +kernel
theorem dX8_blur_155 : decode cX8_blur 155 = .ok (.goto (-125), 3) := by decide +kernel
theorem dX8_blur_158 : decode cX8_blur 158 = .ok (.return_, 1) := by decide +kernel
theorem dX9_init_0 : decode cX9_init 0 = .ok (.aload_n 0, 1) := by decide +kernel
theorem dX9_init_1 : decode cX9_init 1 = .ok (.invokespecial 1, 3) := by decide +kernel
theorem dX9_init_4 : decode cX9_init 4 = .ok (.aload_n 0, 1) := by decide +kernel
theorem dX9_init_5 : decode cX9_init 5 = .ok (.new 7, 3) := by decide +kernel
theorem dX9_init_8 : decode cX9_init 8 = .ok (.dup, 1) := by decide +kernel
theorem dX9_init_9 : decode cX9_init 9 = .ok (.invokespecial 9, 3) := by decide +kernel
theorem dX9_init_12 : decode cX9_init 12 = .ok (.putfield 10, 3) := by decide +kernel
theorem dX9_init_15 : decode cX9_init 15 = .ok (.aload_n 0, 1) := by decide +kernel
theorem dX9_init_16 : decode cX9_init 16 = .ok (.new 16, 3) := by decide +kernel
theorem dX9_init_19 : decode cX9_init 19 = .ok (.dup, 1) := by decide +kernel
theorem dX9_init_20 : decode cX9_init 20 = .ok (.invokespecial 18, 3) := by decide +kernel
theorem dX9_init_23 : decode cX9_init 23 = .ok (.putfield 19, 3) := by decide +kernel
theorem dX9_init_26 : decode cX9_init 26 = .ok (.aload_n 0, 1) := by decide +kernel
theorem dX9_init_27 : decode cX9_init 27 = .ok (.new 23, 3) := by decide +kernel
theorem dX9_init_30 : decode cX9_init 30 = .ok (.dup, 1) := by decide +kernel
theorem dX9_init_31 : decode cX9_init 31 = .ok (.invokespecial 25, 3) := by decide +kernel
theorem dX9_init_34 : decode cX9_init 34 = .ok (.putfield 26, 3) := by decide +kernel
theorem dX9_init_37 : decode cX9_init 37 = .ok (.aload_n 0, 1) := by decide +kernel
theorem dX9_init_38 : decode cX9_init 38 = .ok (.new 30, 3) := by decide +kernel
theorem dX9_init_41 : decode cX9_init 41 = .ok (.dup, 1) := by decide +kernel
theorem dX9_init_42 : decode cX9_init 42 = .ok (.invokespecial 32, 3) := by decide +kernel
theorem dX9_init_45 : decode cX9_init 45 = .ok (.putfield 33, 3) := by decide +kernel
theorem dX9_init_48 : decode cX9_init 48 = .ok (.aload_n 0, 1) := by decide +kernel
theorem dX9_init_49 : decode cX9_init 49 = .ok (.new 37, 3) := by decide +kernel
theorem dX9_init_52 : decode cX9_init 52 = .ok (.dup, 1) := by decide +kernel
theorem dX9_init_53 : decode cX9_init 53 = .ok (.invokespecial 39, 3) := by decide +kernel
theorem dX9_init_56 : decode cX9_init 56 = .ok (.putfield 40, 3) := by decide +kernel
theorem dX9_init_59 : decode cX9_init 59 = .ok (.aload_n 0, 1) := by decide +kernel
theorem dX9_init_60 : decode cX9_init 60 = .ok (.new 44, 3) := by decide +kernel
theorem dX9_init_63 : decode cX9_init 63 = .ok (.dup, 1) := by decide +kernel
theorem dX9_init_64 : decode cX9_init 64 = .ok (.invokespecial 46, 3) := by decide +kernel
theorem dX9_init_67 : decode cX9_init 67 = .ok (.putfield 47, 3) := by decide +kernel
theorem dX9_init_70 : decode cX9_init 70 = .ok (.aload_n 0, 1) := by decide +kernel
theorem dX9_init_71 : decode cX9_init 71 = .ok (.new 51, 3) := by decide +kernel
theorem dX9_init_74 : decode cX9_init 74 = .ok (.dup, 1) := by decide +kernel
theorem dX9_init_75 : decode cX9_init 75 = .ok (.invokespecial 53, 3) := by decide +kernel
theorem dX9_init_78 : decode cX9_init 78 = .ok (.putfield 54, 3) := by decide +kernel
theorem dX9_init_81 : decode cX9_init 81 = .ok (.aload_n 0, 1) := by decide +kernel
theorem dX9_init_82 : decode cX9_init 82 = .ok (.new 58, 3) := by decide +kernel
theorem dX9_init_85 : decode cX9_init 85 = .ok (.dup, 1) := by decide +kernel
theorem dX9_init_86 : decode cX9_init 86 = .ok (.invokespecial 60, 3) := by decide +kernel
theorem dX9_init_89 : decode cX9_init 89 = .ok (.putfield 61, 3) := by decide +kernel
theorem dX9_init_92 : decode cX9_init 92 = .ok (.aload_n 0, 1) := by decide +kernel
theorem dX9_init_93 : decode cX9_init 93 = .ok (.new 58, 3) := by decide +kernel
theorem dX9_init_96 : decode cX9_init 96 = .ok (.dup, 1) := by decide +kernel
theorem dX9_init_97 : decode cX9_init 97 = .ok (.invokespecial 60, 3) := by decide +kernel
theorem dX9_init_100 : decode cX9_init 100 = .ok (.putfield 65, 3) := by decide +kernel
theorem dX9_init_103 : decode cX9_init 103 = .ok (.aload_n 0, 1) := by decide +kernel
theorem dX9_init_104 : decode cX9_init 104 = .ok (.new 58, 3) := by decide +kernel
theorem dX9_init_107 : decode cX9_init 107 = .ok (.dup, 1) := by decide +kernel
theorem dX9_init_108 : decode cX9_init 108 = .ok (.invokespecial 60, 3) := by decide +kernel
theorem dX9_init_111 : decode cX9_init 111 = .ok (.putfield 68, 3) := by decide +kernel
theorem dX9_init_114 : decode cX9_init 114 = .ok (.aload_n 0, 1) := by decide +kernel
theorem dX9_init_115 : decode cX9_init 115 = .ok (.new 71, 3) := by decide +kernel
theorem dX9_init_118 : decode cX9_init 118 = .ok (.dup, 1) := by decide +kernel
theorem dX9_init_119 : decode cX9_init 119 = .ok (.invokespecial 73, 3) := by decide +kernel
theorem dX9_init_122 : decode cX9_init 122 = .ok (.putfield 74, 3) := by decide +kernel
theorem dX9_init_125 : decode cX9_init 125 = .ok (.aload_n 0, 1) := by decide +kernel
theorem dX9_init_126 : decode cX9_init 126 = .ok (.iconst 1, 1) := by decide +kernel
theorem dX9_init_127 : decode cX9_init 127 = .ok (.putfield 78, 3) := by decide +kernel
theorem dX9_init_130 : decode cX9_init 130 = .ok (.aload_n 0, 1) := by decide +kernel
theorem dX9_init_131 : decode cX9_init 131 = .ok (.iconst 0, 1) := by decide +kernel
theorem dX9_init_132 : decode cX9_init 132 = .ok (.putfield 82, 3) := by decide +kernel
theorem dX9_init_135 : decode cX9_init 135 = .ok (.aload_n 0, 1) := by decide +kernel
theorem dX9_init_136 : decode cX9_init 136 = .ok (.iconst 1, 1) := by decide +kernel
theorem dX9_init_137 : decode cX9_init 137 = .ok (.putfield 85, 3) := by decide +kernel
theorem dX9_init_140 : decode cX9_init 140 = .ok (.aload_n 0, 1) := by decide +kernel
theorem dX9_init_141 : decode cX9_init 141 = .ok (.invokevirtual 88, 3) := by decide +kernel
theorem dX9_init_144 : decode cX9_init 144 = .ok (.return_, 1) := by decide +kernel
theorem dX9_facts_0 : decode cX9_facts 0 = .ok (.iload_n 1, 1) := by decide +kernel
theorem dX9_facts_1 : decode cX9_facts 1 = .ok (.iconst 1, 1) := by decide +kernel
theorem dX9_facts_2 : decode cX9_facts 2 = .ok (.if_icmp .lt 9, 3) := by decide +kernel
theorem dX9_facts_5 : decode cX9_facts 5 = .ok (.iload_n 1, 1) := by decide +kernel
theorem dX9_facts_6 : decode cX9_facts 6 = .ok (.bipush 10, 2) := by decide +kernel
theorem dX9_facts_8 : decode cX9_facts 8 = .ok (.if_icmp .le 5, 3) := by decide +kernel
theorem dX9_facts_11 : decode cX9_facts 11 = .ok (.iconst (-1), 1) := by decide +kernel
theorem dX9_facts_12 : decode cX9_facts 12 = .ok (.ireturn, 1) := by decide +kernel
theorem dX9_facts_13 : decode cX9_facts 13 = .ok (.aload_n 0, 1) := by decide +kernel
theorem dX9_facts_14 : decode cX9_facts 14 = .ok (.iload_n 1, 1) := by decide +kernel
theorem dX9_facts_15 : decode cX9_facts 15 = .ok (.putfield 78, 3) := by decide +kernel
theorem dX9_facts_18 : decode cX9_facts 18 = .ok (.aload_n 0, 1) := by decide +kernel
theorem dX9_facts_19 : decode cX9_facts 19 = .ok (.aload_n 0, 1) := by decide +kernel
theorem dX9_facts_20 : decode cX9_facts 20 = .ok (.getfield 82, 3) := by decide +kernel
theorem dX9_facts_23 : decode cX9_facts 23 = .ok (.aload_n 0, 1) := by decide +kernel
theorem dX9_facts_24 : decode cX9_facts 24 = .ok (.invokevirtual 91, 3) := by decide +kernel
theorem dX9_facts_27 : decode cX9_facts 27 = .ok (.iand, 1) := by decide +kernel
theorem dX9_facts_28 : decode cX9_facts 28 = .ok (.putfield 82, 3) := by decide +kernel
theorem dX9_facts_31 : decode cX9_facts 31 = .ok (.aload_n 0, 1) := by decide +kernel
theorem dX9_facts_32 : decode cX9_facts 32 = .ok (.invokevirtual 88, 3) := by decide +kernel
theorem dX9_facts_35 : decode cX9_facts 35 = .ok (.aload_n 0, 1) := by decide +kernel
theorem dX9_facts_36 : decode cX9_facts 36 = .ok (.getfield 65, 3) := by decide +kernel
theorem dX9_facts_39 : decode cX9_facts 39 = .ok (.invokevirtual 95, 3) := by decide +kernel
theorem dX9_facts_42 : decode cX9_facts 42 = .ok (.ireturn, 1) := by decide +kernel
theorem dX9_truth_0 : decode cX9_truth 0 = .ok (.iload_n 1, 1) := by decide +kernel
theorem dX9_truth_1 : decode cX9_truth 1 = .ok (.ifCond .lt 11, 3) := by decide +kernel
theorem dX9_truth_4 : decode cX9_truth 4 = .ok (.iload_n 1, 1) := by decide +kernel
theorem dX9_truth_5 : decode cX9_truth 5 = .ok (.aload_n 0, 1) := by decide +kernel
theorem dX9_truth_6 : decode cX9_truth 6 = .ok (.invokevirtual 91, 3) := by decide +kernel
theorem dX9_truth_9 : decode cX9_truth 9 = .ok (.if_icmp .le 5, 3) := by decide +kernel
theorem dX9_truth_12 : decode cX9_truth 12 = .ok (.iconst 0, 1) := by decide +kernel
theorem dX9_truth_13 : decode cX9_truth 13 = .ok (.ireturn, 1) := by decide +kernel
theorem dX9_truth_14 : decode cX9_truth 14 = .ok (.aload_n 0, 1) := by decide +kernel
theorem dX9_truth_15 : decode cX9_truth 15 = .ok (.iload_n 1, 1) := by decide +kernel
theorem dX9_truth_16 : decode cX9_truth 16 = .ok (.putfield 82, 3) := by decide +kernel
theorem dX9_truth_19 : decode cX9_truth 19 = .ok (.iconst 1, 1) := by decide +kernel
theorem dX9_truth_20 : decode cX9_truth 20 = .ok (.ireturn, 1) := by decide +kernel
theorem dX9_person_0 : decode cX9_person 0 = .ok (.iload_n 1, 1) := by decide +kernel
theorem dX9_person_1 : decode cX9_person 1 = .ok (.ifCond .lt 9, 3) := by decide +kernel
theorem dX9_person_4 : decode cX9_person 4 = .ok (.iload_n 1, 1) := by decide +kernel
theorem dX9_person_5 : decode cX9_person 5 = .ok (.bipush 99, 2) := by decide +kernel
theorem dX9_person_7 : decode cX9_person 7 = .ok (.if_icmp .le 5, 3) := by decide +kernel
theorem dX9_person_10 : decode cX9_person 10 = .ok (.iconst (-1), 1) := by decide +kernel
theorem dX9_person_11 : decode cX9_person 11 = .ok (.ireturn, 1) := by decide +kernel
theorem dX9_person_12 : decode cX9_person 12 = .ok (.aload_n 0, 1) := by decide +kernel
theorem dX9_person_13 : decode cX9_person 13 = .ok (.getfield 19, 3) := by decide +kernel
theorem dX9_person_16 : decode cX9_person 16 = .ok (.iload_n 1, 1) := by decide +kernel
theorem dX9_person_17 : decode cX9_person 17 = .ok (.invokevirtual 98, 3) := by decide +kernel
theorem dX9_person_20 : decode cX9_person 20 = .ok (.ireturn, 1) := by decide +kernel
theorem dX9_knows_0 : decode cX9_knows 0 = .ok (.aload_n 0, 1) := by decide +kernel
theorem dX9_knows_1 : decode cX9_knows 1 = .ok (.getfield 19, 3) := by decide +kernel
theorem dX9_knows_4 : decode cX9_knows 4 = .ok (.iload_n 1, 1) := by decide +kernel
theorem dX9_knows_5 : decode cX9_knows 5 = .ok (.invokevirtual 102, 3) := by decide +kernel
theorem dX9_knows_8 : decode cX9_knows 8 = .ok (.ifCond .eq 14, 3) := by decide +kernel
theorem dX9_knows_11 : decode cX9_knows 11 = .ok (.iload_n 2, 1) := by decide +kernel
theorem dX9_knows_12 : decode cX9_knows 12 = .ok (.ifCond .lt 10, 3) := by decide +kernel
theorem dX9_knows_15 : decode cX9_knows 15 = .ok (.iload_n 2, 1) := by decide +kernel
theorem dX9_knows_16 : decode cX9_knows 16 = .ok (.sipush 1023, 3) := by decide +kernel
theorem dX9_knows_19 : decode cX9_knows 19 = .ok (.if_icmp .le 5, 3) := by decide +kernel
theorem dX9_knows_22 : decode cX9_knows 22 = .ok (.iconst 0, 1) := by decide +kernel
theorem dX9_knows_23 : decode cX9_knows 23 = .ok (.ireturn, 1) := by decide +kernel
theorem dX9_knows_24 : decode cX9_knows 24 = .ok (.aload_n 0, 1) := by decide +kernel
theorem dX9_knows_25 : decode cX9_knows 25 = .ok (.getfield 19, 3) := by decide +kernel
theorem dX9_knows_28 : decode cX9_knows 28 = .ok (.iload_n 1, 1) := by decide +kernel
theorem dX9_knows_29 : decode cX9_knows 29 = .ok (.iload_n 2, 1) := by decide +kernel
theorem dX9_knows_30 : decode cX9_knows 30 = .ok (.invokevirtual 106, 3) := by decide +kernel
theorem dX9_knows_33 : decode cX9_knows 33 = .ok (.iconst 1, 1) := by decide +kernel
theorem dX9_knows_34 : decode cX9_knows 34 = .ok (.ireturn, 1) := by decide +kernel
theorem dX9_harm_0 : decode cX9_harm 0 = .ok (.aload_n 0, 1) := by decide +kernel
theorem dX9_harm_1 : decode cX9_harm 1 = .ok (.getfield 19, 3) := by decide +kernel
theorem dX9_harm_4 : decode cX9_harm 4 = .ok (.iload_n 1, 1) := by decide +kernel
theorem dX9_harm_5 : decode cX9_harm 5 = .ok (.invokevirtual 102, 3) := by decide +kernel
theorem dX9_harm_8 : decode cX9_harm 8 = .ok (.ifCond .eq 13, 3) := by decide +kernel
theorem dX9_harm_11 : decode cX9_harm 11 = .ok (.iload_n 2, 1) := by decide +kernel
theorem dX9_harm_12 : decode cX9_harm 12 = .ok (.ifCond .lt 9, 3) := by decide +kernel
theorem dX9_harm_15 : decode cX9_harm 15 = .ok (.iload_n 2, 1) := by decide +kernel
theorem dX9_harm_16 : decode cX9_harm 16 = .ok (.bipush 10, 2) := by decide +kernel
theorem dX9_harm_18 : decode cX9_harm 18 = .ok (.if_icmp .lt 5, 3) := by decide +kernel
theorem dX9_harm_21 : decode cX9_harm 21 = .ok (.iconst 0, 1) := by decide +kernel
theorem dX9_harm_22 : decode cX9_harm 22 = .ok (.ireturn, 1) := by decide +kernel
theorem dX9_harm_23 : decode cX9_harm 23 = .ok (.iload_n 3, 1) := by decide +kernel
theorem dX9_harm_24 : decode cX9_harm 24 = .ok (.invokestatic 110, 3) := by decide +kernel
theorem dX9_harm_27 : decode cX9_harm 27 = .ok (.ifCond .eq 15, 3) := by decide +kernel
theorem dX9_harm_30 : decode cX9_harm 30 = .ok (.iload 4, 2) := by decide +kernel
theorem dX9_harm_32 : decode cX9_harm 32 = .ok (.ifCond .lt 10, 3) := by decide +kernel
theorem dX9_harm_35 : decode cX9_harm 35 = .ok (.iload 4, 2) := by decide +kernel
theorem dX9_harm_37 : decode cX9_harm 37 = .ok (.bipush 99, 2) := by decide +kernel
theorem dX9_harm_39 : decode cX9_harm 39 = .ok (.if_icmp .le 5, 3) := by decide +kernel
theorem dX9_harm_42 : decode cX9_harm 42 = .ok (.iconst 0, 1) := by decide +kernel
theorem dX9_harm_43 : decode cX9_harm 43 = .ok (.ireturn, 1) := by decide +kernel
theorem dX9_harm_44 : decode cX9_harm 44 = .ok (.aload_n 0, 1) := by decide +kernel
theorem dX9_harm_45 : decode cX9_harm 45 = .ok (.getfield 19, 3) := by decide +kernel
theorem dX9_harm_48 : decode cX9_harm 48 = .ok (.iload_n 1, 1) := by decide +kernel
theorem dX9_harm_49 : decode cX9_harm 49 = .ok (.iload_n 2, 1) := by decide +kernel
theorem dX9_harm_50 : decode cX9_harm 50 = .ok (.iload_n 3, 1) := by decide +kernel
theorem dX9_harm_51 : decode cX9_harm 51 = .ok (.iload 4, 2) := by decide +kernel
theorem dX9_harm_53 : decode cX9_harm 53 = .ok (.invokevirtual 113, 3) := by decide +kernel
theorem dX9_harm_56 : decode cX9_harm 56 = .ok (.iconst 1, 1) := by decide +kernel
theorem dX9_harm_57 : decode cX9_harm 57 = .ok (.ireturn, 1) := by decide +kernel
theorem dX9_feed_0 : decode cX9_feed 0 = .ok (.aload_n 0, 1) := by decide +kernel
theorem dX9_feed_1 : decode cX9_feed 1 = .ok (.getfield 10, 3) := by decide +kernel
theorem dX9_feed_4 : decode cX9_feed 4 = .ok (.invokevirtual 117, 3) := by decide +kernel
theorem dX9_feed_7 : decode cX9_feed 7 = .ok (.ifCond .ne 5, 3) := by decide +kernel
theorem dX9_feed_10 : decode cX9_feed 10 = .ok (.iconst (-1), 1) := by decide +kernel
theorem dX9_feed_11 : decode cX9_feed 11 = .ok (.ireturn, 1) := by decide +kernel
theorem dX9_feed_12 : decode cX9_feed 12 = .ok (.aload_n 0, 1) := by decide +kernel
theorem dX9_feed_13 : decode cX9_feed 13 = .ok (.getfield 10, 3) := by decide +kernel
theorem dX9_feed_16 : decode cX9_feed 16 = .ok (.iload_n 1, 1) := by decide +kernel
theorem dX9_feed_17 : decode cX9_feed 17 = .ok (.invokevirtual 121, 3) := by decide +kernel
theorem dX9_feed_20 : decode cX9_feed 20 = .ok (.aload_n 0, 1) := by decide +kernel
theorem dX9_feed_21 : decode cX9_feed 21 = .ok (.getfield 10, 3) := by decide +kernel
theorem dX9_feed_24 : decode cX9_feed 24 = .ok (.iload_n 2, 1) := by decide +kernel
theorem dX9_feed_25 : decode cX9_feed 25 = .ok (.invokevirtual 121, 3) := by decide +kernel
theorem dX9_feed_28 : decode cX9_feed 28 = .ok (.aload_n 0, 1) := by decide +kernel
theorem dX9_feed_29 : decode cX9_feed 29 = .ok (.getfield 10, 3) := by decide +kernel
theorem dX9_feed_32 : decode cX9_feed 32 = .ok (.iload_n 3, 1) := by decide +kernel
theorem dX9_feed_33 : decode cX9_feed 33 = .ok (.invokevirtual 121, 3) := by decide +kernel
theorem dX9_feed_36 : decode cX9_feed 36 = .ok (.aload_n 0, 1) := by decide +kernel
theorem dX9_feed_37 : decode cX9_feed 37 = .ok (.getfield 10, 3) := by decide +kernel
theorem dX9_feed_40 : decode cX9_feed 40 = .ok (.iload 4, 2) := by decide +kernel
theorem dX9_feed_42 : decode cX9_feed 42 = .ok (.invokevirtual 121, 3) := by decide +kernel
theorem dX9_feed_45 : decode cX9_feed 45 = .ok (.aload_n 0, 1) := by decide +kernel
theorem dX9_feed_46 : decode cX9_feed 46 = .ok (.getfield 10, 3) := by decide +kernel
theorem dX9_feed_49 : decode cX9_feed 49 = .ok (.iload 5, 2) := by decide +kernel
theorem dX9_feed_51 : decode cX9_feed 51 = .ok (.invokevirtual 121, 3) := by decide +kernel
theorem dX9_feed_54 : decode cX9_feed 54 = .ok (.aload_n 0, 1) := by decide +kernel
theorem dX9_feed_55 : decode cX9_feed 55 = .ok (.getfield 10, 3) := by decide +kernel
theorem dX9_feed_58 : decode cX9_feed 58 = .ok (.invokevirtual 125, 3) := by decide +kernel
theorem dX9_feed_61 : decode cX9_feed 61 = .ok (.ireturn, 1) := by decide +kernel
theorem dX9_law_0 : decode cX9_law 0 = .ok (.iload_n 1, 1) := by decide +kernel
theorem dX9_law_1 : decode cX9_law 1 = .ok (.iconst 1, 1) := by decide +kernel
theorem dX9_law_2 : decode cX9_law 2 = .ok (.if_icmp .lt 21, 3) := by decide +kernel
theorem dX9_law_5 : decode cX9_law 5 = .ok (.iload_n 1, 1) := by decide +kernel
theorem dX9_law_6 : decode cX9_law 6 = .ok (.sipush 200, 3) := by decide +kernel
theorem dX9_law_9 : decode cX9_law 9 = .ok (.if_icmp .gt 14, 3) := by decide +kernel
theorem dX9_law_12 : decode cX9_law 12 = .ok (.iload_n 1, 1) := by decide +kernel
theorem dX9_law_13 : decode cX9_law 13 = .ok (.aload_n 0, 1) := by decide +kernel
theorem dX9_law_14 : decode cX9_law 14 = .ok (.getfield 10, 3) := by decide +kernel
theorem dX9_law_17 : decode cX9_law 17 = .ok (.invokevirtual 125, 3) := by decide +kernel
theorem dX9_law_20 : decode cX9_law 20 = .ok (.if_icmp .le 5, 3) := by decide +kernel
theorem dX9_law_23 : decode cX9_law 23 = .ok (.iconst (-1), 1) := by decide +kernel
theorem dX9_law_24 : decode cX9_law 24 = .ok (.ireturn, 1) := by decide +kernel
theorem dX9_law_25 : decode cX9_law 25 = .ok (.aload_n 0, 1) := by decide +kernel
theorem dX9_law_26 : decode cX9_law 26 = .ok (.getfield 40, 3) := by decide +kernel
theorem dX9_law_29 : decode cX9_law 29 = .ok (.aload_n 0, 1) := by decide +kernel
theorem dX9_law_30 : decode cX9_law 30 = .ok (.getfield 10, 3) := by decide +kernel
theorem dX9_law_33 : decode cX9_law 33 = .ok (.iload_n 1, 1) := by decide +kernel
theorem dX9_law_34 : decode cX9_law 34 = .ok (.invokevirtual 126, 3) := by decide +kernel
theorem dX9_law_37 : decode cX9_law 37 = .ok (.istore_n 2, 1) := by decide +kernel
theorem dX9_law_38 : decode cX9_law 38 = .ok (.aload_n 0, 1) := by decide +kernel
theorem dX9_law_39 : decode cX9_law 39 = .ok (.getfield 10, 3) := by decide +kernel
theorem dX9_law_42 : decode cX9_law 42 = .ok (.invokevirtual 130, 3) := by decide +kernel
theorem dX9_law_45 : decode cX9_law 45 = .ok (.iload_n 2, 1) := by decide +kernel
theorem dX9_law_46 : decode cX9_law 46 = .ok (.ifCond .le 21, 3) := by decide +kernel
theorem dX9_law_49 : decode cX9_law 49 = .ok (.aload_n 0, 1) := by decide +kernel
theorem dX9_law_50 : decode cX9_law 50 = .ok (.getfield 74, 3) := by decide +kernel
theorem dX9_law_53 : decode cX9_law 53 = .ok (.aload_n 0, 1) := by decide +kernel
theorem dX9_law_54 : decode cX9_law 54 = .ok (.getfield 40, 3) := by decide +kernel
theorem dX9_law_57 : decode cX9_law 57 = .ok (.invokevirtual 133, 3) := by decide +kernel
theorem dX9_law_60 : decode cX9_law 60 = .ok (.invokevirtual 137, 3) := by decide +kernel
theorem dX9_law_63 : decode cX9_law 63 = .ok (.aload_n 0, 1) := by decide +kernel
theorem dX9_law_64 : decode cX9_law 64 = .ok (.invokevirtual 88, 3) := by decide +kernel
theorem dX9_law_67 : decode cX9_law 67 = .ok (.iload_n 2, 1) := by decide +kernel
theorem dX9_law_68 : decode cX9_law 68 = .ok (.ireturn, 1) := by decide +kernel
theorem dX9_would_0 : decode cX9_would 0 = .ok (.aload_n 0, 1) := by decide +kernel
theorem dX9_would_1 : decode cX9_would 1 = .ok (.getfield 19, 3) := by decide +kernel
theorem dX9_would_4 : decode cX9_would 4 = .ok (.iload_n 1, 1) := by decide +kernel
theorem dX9_would_5 : decode cX9_would 5 = .ok (.invokevirtual 102, 3) := by decide +kernel
theorem dX9_would_8 : decode cX9_would 8 = .ok (.ifCond .eq 18, 3) := by decide +kernel
theorem dX9_would_11 : decode cX9_would 11 = .ok (.aload_n 0, 1) := by decide +kernel
theorem dX9_would_12 : decode cX9_would 12 = .ok (.iload_n 2, 1) := by decide +kernel
theorem dX9_would_13 : decode cX9_would 13 = .ok (.invokevirtual 141, 3) := by decide +kernel
theorem dX9_would_16 : decode cX9_would 16 = .ok (.ifCond .eq 10, 3) := by decide +kernel
theorem dX9_would_19 : decode cX9_would 19 = .ok (.iload_n 3, 1) := by decide +kernel
theorem dX9_would_20 : decode cX9_would 20 = .ok (.invokestatic 110, 3) := by decide +kernel
theorem dX9_would_23 : decode cX9_would 23 = .ok (.ifCond .ne 5, 3) := by decide +kernel
theorem dX9_would_26 : decode cX9_would 26 = .ok (.iconst (-1), 1) := by decide +kernel
theorem dX9_would_27 : decode cX9_would 27 = .ok (.ireturn, 1) := by decide +kernel
theorem dX9_would_28 : decode cX9_would 28 = .ok (.aload_n 0, 1) := by decide +kernel
theorem dX9_would_29 : decode cX9_would 29 = .ok (.iload_n 1, 1) := by decide +kernel
theorem dX9_would_30 : decode cX9_would 30 = .ok (.iload_n 2, 1) := by decide +kernel
theorem dX9_would_31 : decode cX9_would 31 = .ok (.iload_n 3, 1) := by decide +kernel
theorem dX9_would_32 : decode cX9_would 32 = .ok (.invokevirtual 144, 3) := by decide +kernel
theorem dX9_would_35 : decode cX9_would 35 = .ok (.ifCond .eq 7, 3) := by decide +kernel
theorem dX9_would_38 : decode cX9_would 38 = .ok (.iconst 1, 1) := by decide +kernel
theorem dX9_would_39 : decode cX9_would 39 = .ok (.goto 4, 3) := by decide +kernel
theorem dX9_would_42 : decode cX9_would 42 = .ok (.iconst 0, 1) := by decide +kernel
theorem dX9_would_43 : decode cX9_would 43 = .ok (.ireturn, 1) := by decide +kernel
theorem dX9_ask_0 : decode cX9_ask 0 = .ok (.aload_n 0, 1) := by decide +kernel
theorem dX9_ask_1 : decode cX9_ask 1 = .ok (.getfield 19, 3) := by decide +kernel
theorem dX9_ask_4 : decode cX9_ask 4 = .ok (.iload_n 1, 1) := by decide +kernel
theorem dX9_ask_5 : decode cX9_ask 5 = .ok (.invokevirtual 102, 3) := by decide +kernel
theorem dX9_ask_8 : decode cX9_ask 8 = .ok (.ifCond .eq 11, 3) := by decide +kernel
theorem dX9_ask_11 : decode cX9_ask 11 = .ok (.aload_n 0, 1) := by decide +kernel
theorem dX9_ask_12 : decode cX9_ask 12 = .ok (.iload_n 2, 1) := by decide +kernel
theorem dX9_ask_13 : decode cX9_ask 13 = .ok (.invokevirtual 141, 3) := by decide +kernel
theorem dX9_ask_16 : decode cX9_ask 16 = .ok (.ifCond .ne 5, 3) := by decide +kernel
theorem dX9_ask_19 : decode cX9_ask 19 = .ok (.iconst (-1), 1) := by decide +kernel
theorem dX9_ask_20 : decode cX9_ask 20 = .ok (.ireturn, 1) := by decide +kernel
theorem dX9_ask_21 : decode cX9_ask 21 = .ok (.aload_n 0, 1) := by decide +kernel
theorem dX9_ask_22 : decode cX9_ask 22 = .ok (.getfield 26, 3) := by decide +kernel
theorem dX9_ask_25 : decode cX9_ask 25 = .ok (.invokevirtual 148, 3) := by decide +kernel
theorem dX9_ask_28 : decode cX9_ask 28 = .ok (.ifCond .eq 6, 3) := by decide +kernel
theorem dX9_ask_31 : decode cX9_ask 31 = .ok (.bipush (-2), 2) := by decide +kernel
theorem dX9_ask_33 : decode cX9_ask 33 = .ok (.ireturn, 1) := by decide +kernel
theorem dX9_ask_34 : decode cX9_ask 34 = .ok (.aload_n 0, 1) := by decide +kernel
theorem dX9_ask_35 : decode cX9_ask 35 = .ok (.iload_n 1, 1) := by decide +kernel
theorem dX9_ask_36 : decode cX9_ask 36 = .ok (.iload_n 2, 1) := by decide +kernel
theorem dX9_ask_37 : decode cX9_ask 37 = .ok (.invokevirtual 151, 3) := by decide +kernel
theorem dX9_ask_40 : decode cX9_ask 40 = .ok (.ireturn, 1) := by decide +kernel
theorem dX9_half_0 : decode cX9_half 0 = .ok (.aload_n 0, 1) := by decide +kernel
theorem dX9_half_1 : decode cX9_half 1 = .ok (.getfield 19, 3) := by decide +kernel
theorem dX9_half_4 : decode cX9_half 4 = .ok (.iload_n 1, 1) := by decide +kernel
theorem dX9_half_5 : decode cX9_half 5 = .ok (.invokevirtual 102, 3) := by decide +kernel
theorem dX9_half_8 : decode cX9_half 8 = .ok (.ifCond .eq 24, 3) := by decide +kernel
theorem dX9_half_11 : decode cX9_half 11 = .ok (.aload_n 0, 1) := by decide +kernel
theorem dX9_half_12 : decode cX9_half 12 = .ok (.iload_n 2, 1) := by decide +kernel
theorem dX9_half_13 : decode cX9_half 13 = .ok (.invokevirtual 141, 3) := by decide +kernel
theorem dX9_half_16 : decode cX9_half 16 = .ok (.ifCond .eq 16, 3) := by decide +kernel
theorem dX9_half_19 : decode cX9_half 19 = .ok (.aload_n 0, 1) := by decide +kernel
theorem dX9_half_20 : decode cX9_half 20 = .ok (.iload_n 3, 1) := by decide +kernel
theorem dX9_half_21 : decode cX9_half 21 = .ok (.invokevirtual 141, 3) := by decide +kernel
theorem dX9_half_24 : decode cX9_half 24 = .ok (.ifCond .eq 8, 3) := by decide +kernel
theorem dX9_half_27 : decode cX9_half 27 = .ok (.iload_n 2, 1) := by decide +kernel
theorem dX9_half_28 : decode cX9_half 28 = .ok (.iload_n 3, 1) := by decide +kernel
theorem dX9_half_29 : decode cX9_half 29 = .ok (.if_icmp .ne 5, 3) := by decide +kernel
theorem dX9_half_32 : decode cX9_half 32 = .ok (.iconst (-1), 1) := by decide +kernel
theorem dX9_half_33 : decode cX9_half 33 = .ok (.ireturn, 1) := by decide +kernel
theorem dX9_half_34 : decode cX9_half 34 = .ok (.aload_n 0, 1) := by decide +kernel
theorem dX9_half_35 : decode cX9_half 35 = .ok (.getfield 26, 3) := by decide +kernel
theorem dX9_half_38 : decode cX9_half 38 = .ok (.invokevirtual 148, 3) := by decide +kernel
theorem dX9_half_41 : decode cX9_half 41 = .ok (.ifCond .eq 6, 3) := by decide +kernel
theorem dX9_half_44 : decode cX9_half 44 = .ok (.bipush (-2), 2) := by decide +kernel
theorem dX9_half_46 : decode cX9_half 46 = .ok (.ireturn, 1) := by decide +kernel
theorem dX9_half_47 : decode cX9_half 47 = .ok (.aload_n 0, 1) := by decide +kernel
theorem dX9_half_48 : decode cX9_half 48 = .ok (.iload_n 1, 1) := by decide +kernel
theorem dX9_half_49 : decode cX9_half 49 = .ok (.iload_n 2, 1) := by decide +kernel
theorem dX9_half_50 : decode cX9_half 50 = .ok (.iload_n 3, 1) := by decide +kernel
theorem dX9_half_51 : decode cX9_half 51 = .ok (.invokevirtual 155, 3) := by decide +kernel
theorem dX9_half_54 : decode cX9_half 54 = .ok (.ireturn, 1) := by decide +kernel
theorem dX9_back_0 : decode cX9_back 0 = .ok (.aload_n 0, 1) := by decide +kernel
theorem dX9_back_1 : decode cX9_back 1 = .ok (.getfield 26, 3) := by decide +kernel
theorem dX9_back_4 : decode cX9_back 4 = .ok (.invokevirtual 159, 3) := by decide +kernel
theorem dX9_back_7 : decode cX9_back 7 = .ok (.iconst 1, 1) := by decide +kernel
theorem dX9_back_8 : decode cX9_back 8 = .ok (.isub, 1) := by decide +kernel
theorem dX9_back_9 : decode cX9_back 9 = .ok (.istore_n 1, 1) := by decide +kernel
theorem dX9_back_10 : decode cX9_back 10 = .ok (.iload_n 1, 1) := by decide +kernel
theorem dX9_back_11 : decode cX9_back 11 = .ok (.ifCond .ge 5, 3) := by decide +kernel
theorem dX9_back_14 : decode cX9_back 14 = .ok (.iconst 0, 1) := by decide +kernel
theorem dX9_back_15 : decode cX9_back 15 = .ok (.ireturn, 1) := by decide +kernel
theorem dX9_back_16 : decode cX9_back 16 = .ok (.aload_n 0, 1) := by decide +kernel
theorem dX9_back_17 : decode cX9_back 17 = .ok (.getfield 19, 3) := by decide +kernel
theorem dX9_back_20 : decode cX9_back 20 = .ok (.aload_n 0, 1) := by decide +kernel
theorem dX9_back_21 : decode cX9_back 21 = .ok (.getfield 26, 3) := by decide +kernel
theorem dX9_back_24 : decode cX9_back 24 = .ok (.iload_n 1, 1) := by decide +kernel
theorem dX9_back_25 : decode cX9_back 25 = .ok (.invokevirtual 160, 3) := by decide +kernel
theorem dX9_back_28 : decode cX9_back 28 = .ok (.aload_n 0, 1) := by decide +kernel
theorem dX9_back_29 : decode cX9_back 29 = .ok (.getfield 26, 3) := by decide +kernel
theorem dX9_back_32 : decode cX9_back 32 = .ok (.iload_n 1, 1) := by decide +kernel
theorem dX9_back_33 : decode cX9_back 33 = .ok (.invokevirtual 163, 3) := by decide +kernel
theorem dX9_back_36 : decode cX9_back 36 = .ok (.ineg, 1) := by decide +kernel
theorem dX9_back_37 : decode cX9_back 37 = .ok (.invokevirtual 166, 3) := by decide +kernel
theorem dX9_back_40 : decode cX9_back 40 = .ok (.aload_n 0, 1) := by decide +kernel
theorem dX9_back_41 : decode cX9_back 41 = .ok (.getfield 26, 3) := by decide +kernel
theorem dX9_back_44 : decode cX9_back 44 = .ok (.aload_n 0, 1) := by decide +kernel
theorem dX9_back_45 : decode cX9_back 45 = .ok (.getfield 65, 3) := by decide +kernel
theorem dX9_back_48 : decode cX9_back 48 = .ok (.invokevirtual 169, 3) := by decide +kernel
theorem dX9_back_51 : decode cX9_back 51 = .ok (.iconst 1, 1) := by decide +kernel
theorem dX9_back_52 : decode cX9_back 52 = .ok (.ireturn, 1) := by decide +kernel
theorem dX9_anew_0 : decode cX9_anew 0 = .ok (.aload_n 0, 1) := by decide +kernel
theorem dX9_anew_1 : decode cX9_anew 1 = .ok (.getfield 26, 3) := by decide +kernel
theorem dX9_anew_4 : decode cX9_anew 4 = .ok (.invokevirtual 159, 3) := by decide +kernel
theorem dX9_anew_7 : decode cX9_anew 7 = .ok (.istore_n 1, 1) := by decide +kernel
theorem dX9_anew_8 : decode cX9_anew 8 = .ok (.aload_n 0, 1) := by decide +kernel
theorem dX9_anew_9 : decode cX9_anew 9 = .ok (.invokevirtual 173, 3) := by decide +kernel
theorem dX9_anew_12 : decode cX9_anew 12 = .ok (.iload_n 1, 1) := by decide +kernel
theorem dX9_anew_13 : decode cX9_anew 13 = .ok (.ireturn, 1) := by decide +kernel
theorem dX9_left_0 : decode cX9_left 0 = .ok (.iload_n 1, 1) := by decide +kernel
theorem dX9_left_1 : decode cX9_left 1 = .ok (.iconst (-1), 1) := by decide +kernel
theorem dX9_left_2 : decode cX9_left 2 = .ok (.if_icmp .ne 13, 3) := by decide +kernel
theorem dX9_left_5 : decode cX9_left 5 = .ok (.aload_n 0, 1) := by decide +kernel
theorem dX9_left_6 : decode cX9_left 6 = .ok (.getfield 65, 3) := by decide +kernel
theorem dX9_left_9 : decode cX9_left 9 = .ok (.invokevirtual 95, 3) := by decide +kernel
theorem dX9_left_12 : decode cX9_left 12 = .ok (.goto 11, 3) := by decide +kernel
theorem dX9_left_15 : decode cX9_left 15 = .ok (.aload_n 0, 1) := by decide +kernel
theorem dX9_left_16 : decode cX9_left 16 = .ok (.getfield 65, 3) := by decide +kernel
theorem dX9_left_19 : decode cX9_left 19 = .ok (.iload_n 1, 1) := by decide +kernel
theorem dX9_left_20 : decode cX9_left 20 = .ok (.invokevirtual 176, 3) := by decide +kernel
theorem dX9_left_23 : decode cX9_left 23 = .ok (.ireturn, 1) := by decide +kernel
theorem dX9_isLeft_0 : decode cX9_isLeft 0 = .ok (.aload_n 0, 1) := by decide +kernel
theorem dX9_isLeft_1 : decode cX9_isLeft 1 = .ok (.getfield 65, 3) := by decide +kernel
theorem dX9_isLeft_4 : decode cX9_isLeft 4 = .ok (.iload_n 1, 1) := by decide +kernel
theorem dX9_isLeft_5 : decode cX9_isLeft 5 = .ok (.invokevirtual 179, 3) := by decide +kernel
theorem dX9_isLeft_8 : decode cX9_isLeft 8 = .ok (.ireturn, 1) := by decide +kernel
theorem dX9_proved_0 : decode cX9_proved 0 = .ok (.aload_n 0, 1) := by decide +kernel
theorem dX9_proved_1 : decode cX9_proved 1 = .ok (.iload_n 1, 1) := by decide +kernel
theorem dX9_proved_2 : decode cX9_proved 2 = .ok (.invokevirtual 141, 3) := by decide +kernel
theorem dX9_proved_5 : decode cX9_proved 5 = .ok (.ifCond .ne 5, 3) := by decide +kernel
theorem dX9_proved_8 : decode cX9_proved 8 = .ok (.iconst (-1), 1) := by decide +kernel
theorem dX9_proved_9 : decode cX9_proved 9 = .ok (.ireturn, 1) := by decide +kernel
theorem dX9_proved_10 : decode cX9_proved 10 = .ok (.aload_n 0, 1) := by decide +kernel
theorem dX9_proved_11 : decode cX9_proved 11 = .ok (.getfield 65, 3) := by decide +kernel
theorem dX9_proved_14 : decode cX9_proved 14 = .ok (.iload_n 1, 1) := by decide +kernel
theorem dX9_proved_15 : decode cX9_proved 15 = .ok (.iconst 1, 1) := by decide +kernel
theorem dX9_proved_16 : decode cX9_proved 16 = .ok (.invokevirtual 180, 3) := by decide +kernel
theorem dX9_proved_19 : decode cX9_proved 19 = .ok (.istore_n 2, 1) := by decide +kernel
theorem dX9_proved_20 : decode cX9_proved 20 = .ok (.aload_n 0, 1) := by decide +kernel
theorem dX9_proved_21 : decode cX9_proved 21 = .ok (.getfield 65, 3) := by decide +kernel
theorem dX9_proved_24 : decode cX9_proved 24 = .ok (.iload_n 1, 1) := by decide +kernel
theorem dX9_proved_25 : decode cX9_proved 25 = .ok (.iconst 0, 1) := by decide +kernel
theorem dX9_proved_26 : decode cX9_proved 26 = .ok (.invokevirtual 180, 3) := by decide +kernel
theorem dX9_proved_29 : decode cX9_proved 29 = .ok (.istore_n 3, 1) := by decide +kernel
theorem dX9_proved_30 : decode cX9_proved 30 = .ok (.iload_n 2, 1) := by decide +kernel
theorem dX9_proved_31 : decode cX9_proved 31 = .ok (.iload_n 3, 1) := by decide +kernel
theorem dX9_proved_32 : decode cX9_proved 32 = .ok (.if_icmp .ne 5, 3) := by decide +kernel
theorem dX9_proved_35 : decode cX9_proved 35 = .ok (.iconst 2, 1) := by decide +kernel
theorem dX9_proved_36 : decode cX9_proved 36 = .ok (.ireturn, 1) := by decide +kernel
theorem dX9_proved_37 : decode cX9_proved 37 = .ok (.iload_n 2, 1) := by decide +kernel
theorem dX9_proved_38 : decode cX9_proved 38 = .ok (.ifCond .eq 7, 3) := by decide +kernel
theorem dX9_proved_41 : decode cX9_proved 41 = .ok (.iconst 1, 1) := by decide +kernel
theorem dX9_proved_42 : decode cX9_proved 42 = .ok (.goto 4, 3) := by decide +kernel
theorem dX9_proved_45 : decode cX9_proved 45 = .ok (.iconst 0, 1) := by decide +kernel
theorem dX9_proved_46 : decode cX9_proved 46 = .ok (.ireturn, 1) := by decide +kernel
theorem dX9_tells_0 : decode cX9_tells 0 = .ok (.aload_n 0, 1) := by decide +kernel
theorem dX9_tells_1 : decode cX9_tells 1 = .ok (.getfield 19, 3) := by decide +kernel
theorem dX9_tells_4 : decode cX9_tells 4 = .ok (.iload_n 1, 1) := by decide +kernel
theorem dX9_tells_5 : decode cX9_tells 5 = .ok (.invokevirtual 102, 3) := by decide +kernel
theorem dX9_tells_8 : decode cX9_tells 8 = .ok (.ifCond .eq 20, 3) := by decide +kernel
theorem dX9_tells_11 : decode cX9_tells 11 = .ok (.aload_n 0, 1) := by decide +kernel
theorem dX9_tells_12 : decode cX9_tells 12 = .ok (.iload_n 2, 1) := by decide +kernel
theorem dX9_tells_13 : decode cX9_tells 13 = .ok (.invokevirtual 141, 3) := by decide +kernel
theorem dX9_tells_16 : decode cX9_tells 16 = .ok (.ifCond .eq 12, 3) := by decide +kernel
theorem dX9_tells_19 : decode cX9_tells 19 = .ok (.iload_n 3, 1) := by decide +kernel
theorem dX9_tells_20 : decode cX9_tells 20 = .ok (.ifCond .lt 8, 3) := by decide +kernel
theorem dX9_tells_23 : decode cX9_tells 23 = .ok (.iload_n 3, 1) := by decide +kernel
theorem dX9_tells_24 : decode cX9_tells 24 = .ok (.iconst 2, 1) := by decide +kernel
theorem dX9_tells_25 : decode cX9_tells 25 = .ok (.if_icmp .le 5, 3) := by decide +kernel
theorem dX9_tells_28 : decode cX9_tells 28 = .ok (.iconst (-1), 1) := by decide +kernel
theorem dX9_tells_29 : decode cX9_tells 29 = .ok (.ireturn, 1) := by decide +kernel
theorem dX9_tells_30 : decode cX9_tells 30 = .ok (.aload_n 0, 1) := by decide +kernel
theorem dX9_tells_31 : decode cX9_tells 31 = .ok (.getfield 68, 3) := by decide +kernel
theorem dX9_tells_34 : decode cX9_tells 34 = .ok (.aload_n 0, 1) := by decide +kernel
theorem dX9_tells_35 : decode cX9_tells 35 = .ok (.getfield 65, 3) := by decide +kernel
theorem dX9_tells_38 : decode cX9_tells 38 = .ok (.invokevirtual 184, 3) := by decide +kernel
theorem dX9_tells_41 : decode cX9_tells 41 = .ok (.aload_n 0, 1) := by decide +kernel
theorem dX9_tells_42 : decode cX9_tells 42 = .ok (.aload_n 0, 1) := by decide +kernel
theorem dX9_tells_43 : decode cX9_tells 43 = .ok (.getfield 68, 3) := by decide +kernel
theorem dX9_tells_46 : decode cX9_tells 46 = .ok (.iload_n 1, 1) := by decide +kernel
theorem dX9_tells_47 : decode cX9_tells 47 = .ok (.iload_n 2, 1) := by decide +kernel
theorem dX9_tells_48 : decode cX9_tells 48 = .ok (.iload_n 3, 1) := by decide +kernel
theorem dX9_tells_49 : decode cX9_tells 49 = .ok (.invokevirtual 186, 3) := by decide +kernel
theorem dX9_tells_52 : decode cX9_tells 52 = .ok (.aload_n 0, 1) := by decide +kernel
theorem dX9_tells_53 : decode cX9_tells 53 = .ok (.getfield 68, 3) := by decide +kernel
theorem dX9_tells_56 : decode cX9_tells 56 = .ok (.invokevirtual 95, 3) := by decide +kernel
theorem dX9_tells_59 : decode cX9_tells 59 = .ok (.ireturn, 1) := by decide +kernel
theorem dX9_paid_0 : decode cX9_paid 0 = .ok (.aload_n 0, 1) := by decide +kernel
theorem dX9_paid_1 : decode cX9_paid 1 = .ok (.getfield 19, 3) := by decide +kernel
theorem dX9_paid_4 : decode cX9_paid 4 = .ok (.iload_n 1, 1) := by decide +kernel
theorem dX9_paid_5 : decode cX9_paid 5 = .ok (.invokevirtual 102, 3) := by decide +kernel
theorem dX9_paid_8 : decode cX9_paid 8 = .ok (.ifCond .eq 14, 3) := by decide +kernel
theorem dX9_paid_11 : decode cX9_paid 11 = .ok (.aload_n 0, 1) := by decide +kernel
theorem dX9_paid_12 : decode cX9_paid 12 = .ok (.getfield 19, 3) := by decide +kernel
theorem dX9_paid_15 : decode cX9_paid 15 = .ok (.iload_n 1, 1) := by decide +kernel
theorem dX9_paid_16 : decode cX9_paid 16 = .ok (.invokevirtual 190, 3) := by decide +kernel
theorem dX9_paid_19 : decode cX9_paid 19 = .ok (.goto 4, 3) := by decide +kernel
theorem dX9_paid_22 : decode cX9_paid 22 = .ok (.iconst (-1), 1) := by decide +kernel
theorem dX9_paid_23 : decode cX9_paid 23 = .ok (.ireturn, 1) := by decide +kernel
theorem dX9_sentence_0 : decode cX9_sentence 0 = .ok (.aload_n 0, 1) := by decide +kernel
theorem dX9_sentence_1 : decode cX9_sentence 1 = .ok (.getfield 19, 3) := by decide +kernel
theorem dX9_sentence_4 : decode cX9_sentence 4 = .ok (.iload_n 1, 1) := by decide +kernel
theorem dX9_sentence_5 : decode cX9_sentence 5 = .ok (.invokevirtual 102, 3) := by decide +kernel
theorem dX9_sentence_8 : decode cX9_sentence 8 = .ok (.ifCond .eq 23, 3) := by decide +kernel
theorem dX9_sentence_11 : decode cX9_sentence 11 = .ok (.aload_n 0, 1) := by decide +kernel
theorem dX9_sentence_12 : decode cX9_sentence 12 = .ok (.aload_n 0, 1) := by decide +kernel
theorem dX9_sentence_13 : decode cX9_sentence 13 = .ok (.getfield 65, 3) := by decide +kernel
theorem dX9_sentence_16 : decode cX9_sentence 16 = .ok (.iload_n 1, 1) := by decide +kernel
theorem dX9_sentence_17 : decode cX9_sentence 17 = .ok (.aload_n 0, 1) := by decide +kernel
theorem dX9_sentence_18 : decode cX9_sentence 18 = .ok (.getfield 19, 3) := by decide +kernel
theorem dX9_sentence_21 : decode cX9_sentence 21 = .ok (.iload_n 1, 1) := by decide +kernel
theorem dX9_sentence_22 : decode cX9_sentence 22 = .ok (.invokevirtual 190, 3) := by decide +kernel
theorem dX9_sentence_25 : decode cX9_sentence 25 = .ok (.invokevirtual 193, 3) := by decide +kernel
theorem dX9_sentence_28 : decode cX9_sentence 28 = .ok (.goto 4, 3) := by decide +kernel
theorem dX9_sentence_31 : decode cX9_sentence 31 = .ok (.iconst (-1), 1) := by decide +kernel
theorem dX9_sentence_32 : decode cX9_sentence 32 = .ok (.ireturn, 1) := by decide +kernel
theorem dX9_open_0 : decode cX9_open 0 = .ok (.aload_n 0, 1) := by decide +kernel
theorem dX9_open_1 : decode cX9_open 1 = .ok (.invokevirtual 197, 3) := by decide +kernel
theorem dX9_open_4 : decode cX9_open 4 = .ok (.ireturn, 1) := by decide +kernel
theorem dX9_fewest_0 : decode cX9_fewest 0 = .ok (.aload_n 0, 1) := by decide +kernel
theorem dX9_fewest_1 : decode cX9_fewest 1 = .ok (.iload_n 1, 1) := by decide +kernel
theorem dX9_fewest_2 : decode cX9_fewest 2 = .ok (.invokevirtual 141, 3) := by decide +kernel
theorem dX9_fewest_5 : decode cX9_fewest 5 = .ok (.ifCond .eq 22, 3) := by decide +kernel
theorem dX9_fewest_8 : decode cX9_fewest 8 = .ok (.iload_n 2, 1) := by decide +kernel
theorem dX9_fewest_9 : decode cX9_fewest 9 = .ok (.ifCond .lt 18, 3) := by decide +kernel
theorem dX9_fewest_12 : decode cX9_fewest 12 = .ok (.iload_n 2, 1) := by decide +kernel
theorem dX9_fewest_13 : decode cX9_fewest 13 = .ok (.iconst 2, 1) := by decide +kernel
theorem dX9_fewest_14 : decode cX9_fewest 14 = .ok (.if_icmp .gt 13, 3) := by decide +kernel
theorem dX9_fewest_17 : decode cX9_fewest 17 = .ok (.aload_n 0, 1) := by decide +kernel
theorem dX9_fewest_18 : decode cX9_fewest 18 = .ok (.getfield 65, 3) := by decide +kernel
theorem dX9_fewest_21 : decode cX9_fewest 21 = .ok (.invokevirtual 200, 3) := by decide +kernel
theorem dX9_fewest_24 : decode cX9_fewest 24 = .ok (.ifCond .eq 5, 3) := by decide +kernel
theorem dX9_fewest_27 : decode cX9_fewest 27 = .ok (.iconst (-1), 1) := by decide +kernel
theorem dX9_fewest_28 : decode cX9_fewest 28 = .ok (.ireturn, 1) := by decide +kernel
theorem dX9_fewest_29 : decode cX9_fewest 29 = .ok (.aload_n 0, 1) := by decide +kernel
theorem dX9_fewest_30 : decode cX9_fewest 30 = .ok (.getfield 47, 3) := by decide +kernel
theorem dX9_fewest_33 : decode cX9_fewest 33 = .ok (.aload_n 0, 1) := by decide +kernel
theorem dX9_fewest_34 : decode cX9_fewest 34 = .ok (.getfield 65, 3) := by decide +kernel
theorem dX9_fewest_37 : decode cX9_fewest 37 = .ok (.iconst 0, 1) := by decide +kernel
theorem dX9_fewest_38 : decode cX9_fewest 38 = .ok (.iload_n 1, 1) := by decide +kernel
theorem dX9_fewest_39 : decode cX9_fewest 39 = .ok (.aload_n 0, 1) := by decide +kernel
theorem dX9_fewest_40 : decode cX9_fewest 40 = .ok (.getfield 78, 3) := by decide +kernel
theorem dX9_fewest_43 : decode cX9_fewest 43 = .ok (.invokevirtual 203, 3) := by decide +kernel
theorem dX9_fewest_46 : decode cX9_fewest 46 = .ok (.ifCond .eq 14, 3) := by decide +kernel
theorem dX9_fewest_49 : decode cX9_fewest 49 = .ok (.iload_n 2, 1) := by decide +kernel
theorem dX9_fewest_50 : decode cX9_fewest 50 = .ok (.ifCond .ne 7, 3) := by decide +kernel
theorem dX9_fewest_53 : decode cX9_fewest 53 = .ok (.iconst 0, 1) := by decide +kernel
theorem dX9_fewest_54 : decode cX9_fewest 54 = .ok (.goto 5, 3) := by decide +kernel
theorem dX9_fewest_57 : decode cX9_fewest 57 = .ok (.bipush (-3), 2) := by decide +kernel
theorem dX9_fewest_59 : decode cX9_fewest 59 = .ok (.ireturn, 1) := by decide +kernel
theorem dX9_fewest_60 : decode cX9_fewest 60 = .ok (.aload_n 0, 1) := by decide +kernel
theorem dX9_fewest_61 : decode cX9_fewest 61 = .ok (.invokevirtual 197, 3) := by decide +kernel
theorem dX9_fewest_64 : decode cX9_fewest 64 = .ok (.istore_n 3, 1) := by decide +kernel
theorem dX9_fewest_65 : decode cX9_fewest 65 = .ok (.aload_n 0, 1) := by decide +kernel
theorem dX9_fewest_66 : decode cX9_fewest 66 = .ok (.getfield 47, 3) := by decide +kernel
theorem dX9_fewest_69 : decode cX9_fewest 69 = .ok (.aload_n 0, 1) := by decide +kernel
theorem dX9_fewest_70 : decode cX9_fewest 70 = .ok (.getfield 65, 3) := by decide +kernel
theorem dX9_fewest_73 : decode cX9_fewest 73 = .ok (.iload_n 3, 1) := by decide +kernel
theorem dX9_fewest_74 : decode cX9_fewest 74 = .ok (.iload_n 1, 1) := by decide +kernel
theorem dX9_fewest_75 : decode cX9_fewest 75 = .ok (.aload_n 0, 1) := by decide +kernel
theorem dX9_fewest_76 : decode cX9_fewest 76 = .ok (.getfield 78, 3) := by decide +kernel
theorem dX9_fewest_79 : decode cX9_fewest 79 = .ok (.invokevirtual 203, 3) := by decide +kernel
theorem dX9_fewest_82 : decode cX9_fewest 82 = .ok (.ifCond .ne 6, 3) := by decide +kernel
theorem dX9_fewest_85 : decode cX9_fewest 85 = .ok (.bipush (-2), 2) := by decide +kernel
theorem dX9_fewest_87 : decode cX9_fewest 87 = .ok (.ireturn, 1) := by decide +kernel
theorem dX9_fewest_88 : decode cX9_fewest 88 = .ok (.iconst 1, 1) := by decide +kernel
theorem dX9_fewest_89 : decode cX9_fewest 89 = .ok (.istore 4, 2) := by decide +kernel
theorem dX9_fewest_91 : decode cX9_fewest 91 = .ok (.aload_n 0, 1) := by decide +kernel
theorem dX9_fewest_92 : decode cX9_fewest 92 = .ok (.getfield 47, 3) := by decide +kernel
theorem dX9_fewest_95 : decode cX9_fewest 95 = .ok (.aload_n 0, 1) := by decide +kernel
theorem dX9_fewest_96 : decode cX9_fewest 96 = .ok (.getfield 65, 3) := by decide +kernel
theorem dX9_fewest_99 : decode cX9_fewest 99 = .ok (.iload_n 3, 1) := by decide +kernel
theorem dX9_fewest_100 : decode cX9_fewest 100 = .ok (.iload_n 1, 1) := by decide +kernel
theorem dX9_fewest_101 : decode cX9_fewest 101 = .ok (.aload_n 0, 1) := by decide +kernel
theorem dX9_fewest_102 : decode cX9_fewest 102 = .ok (.getfield 78, 3) := by decide +kernel
theorem dX9_fewest_105 : decode cX9_fewest 105 = .ok (.invokevirtual 207, 3) := by decide +kernel
theorem dX9_fewest_108 : decode cX9_fewest 108 = .ok (.istore 5, 2) := by decide +kernel
theorem dX9_fewest_110 : decode cX9_fewest 110 = .ok (.iload 5, 2) := by decide +kernel
theorem dX9_fewest_112 : decode cX9_fewest 112 = .ok (.iconst (-1), 1) := by decide +kernel
theorem dX9_fewest_113 : decode cX9_fewest 113 = .ok (.if_icmp .ne 38, 3) := by decide +kernel
theorem dX9_fewest_116 : decode cX9_fewest 116 = .ok (.aload_n 0, 1) := by decide +kernel
theorem dX9_fewest_117 : decode cX9_fewest 117 = .ok (.getfield 54, 3) := by decide +kernel
theorem dX9_fewest_120 : decode cX9_fewest 120 = .ok (.aload_n 0, 1) := by decide +kernel
theorem dX9_fewest_121 : decode cX9_fewest 121 = .ok (.getfield 65, 3) := by decide +kernel
theorem dX9_fewest_124 : decode cX9_fewest 124 = .ok (.iload_n 3, 1) := by decide +kernel
theorem dX9_fewest_125 : decode cX9_fewest 125 = .ok (.iload_n 1, 1) := by decide +kernel
theorem dX9_fewest_126 : decode cX9_fewest 126 = .ok (.aload_n 0, 1) := by decide +kernel
theorem dX9_fewest_127 : decode cX9_fewest 127 = .ok (.getfield 78, 3) := by decide +kernel
theorem dX9_fewest_130 : decode cX9_fewest 130 = .ok (.invokevirtual 211, 3) := by decide +kernel
theorem dX9_fewest_133 : decode cX9_fewest 133 = .ok (.aload_n 0, 1) := by decide +kernel
theorem dX9_fewest_134 : decode cX9_fewest 134 = .ok (.getfield 54, 3) := by decide +kernel
theorem dX9_fewest_137 : decode cX9_fewest 137 = .ok (.invokevirtual 214, 3) := by decide +kernel
theorem dX9_fewest_140 : decode cX9_fewest 140 = .ok (.istore 4, 2) := by decide +kernel
theorem dX9_fewest_142 : decode cX9_fewest 142 = .ok (.aload_n 0, 1) := by decide +kernel
theorem dX9_fewest_143 : decode cX9_fewest 143 = .ok (.getfield 54, 3) := by decide +kernel
theorem dX9_fewest_146 : decode cX9_fewest 146 = .ok (.invokevirtual 217, 3) := by decide +kernel
theorem dX9_fewest_149 : decode cX9_fewest 149 = .ok (.istore 5, 2) := by decide +kernel
theorem dX9_fewest_151 : decode cX9_fewest 151 = .ok (.iload_n 2, 1) := by decide +kernel
theorem dX9_fewest_152 : decode cX9_fewest 152 = .ok (.ifCond .ne 6, 3) := by decide +kernel
theorem dX9_fewest_155 : decode cX9_fewest 155 = .ok (.iload 4, 2) := by decide +kernel
theorem dX9_fewest_157 : decode cX9_fewest 157 = .ok (.ireturn, 1) := by decide +kernel
theorem dX9_fewest_158 : decode cX9_fewest 158 = .ok (.iload_n 2, 1) := by decide +kernel
theorem dX9_fewest_159 : decode cX9_fewest 159 = .ok (.iconst 1, 1) := by decide +kernel
theorem dX9_fewest_160 : decode cX9_fewest 160 = .ok (.if_icmp .ne 8, 3) := by decide +kernel
theorem dX9_fewest_163 : decode cX9_fewest 163 = .ok (.iload 5, 2) := by decide +kernel
theorem dX9_fewest_165 : decode cX9_fewest 165 = .ok (.goto 9, 3) := by decide +kernel
theorem dX9_fewest_168 : decode cX9_fewest 168 = .ok (.aload_n 0, 1) := by decide +kernel
theorem dX9_fewest_169 : decode cX9_fewest 169 = .ok (.iload 5, 2) := by decide +kernel
theorem dX9_fewest_171 : decode cX9_fewest 171 = .ok (.invokevirtual 220, 3) := by decide +kernel
theorem dX9_fewest_174 : decode cX9_fewest 174 = .ok (.ireturn, 1) := by decide +kernel
theorem dX9_ahead_0 : decode cX9_ahead 0 = .ok (.aload_n 0, 1) := by decide +kernel
theorem dX9_ahead_1 : decode cX9_ahead 1 = .ok (.iload_n 1, 1) := by decide +kernel
theorem dX9_ahead_2 : decode cX9_ahead 2 = .ok (.invokevirtual 141, 3) := by decide +kernel
theorem dX9_ahead_5 : decode cX9_ahead 5 = .ok (.ifCond .eq 22, 3) := by decide +kernel
theorem dX9_ahead_8 : decode cX9_ahead 8 = .ok (.iload_n 2, 1) := by decide +kernel
theorem dX9_ahead_9 : decode cX9_ahead 9 = .ok (.ifCond .lt 18, 3) := by decide +kernel
theorem dX9_ahead_12 : decode cX9_ahead 12 = .ok (.iload_n 2, 1) := by decide +kernel
theorem dX9_ahead_13 : decode cX9_ahead 13 = .ok (.iconst 1, 1) := by decide +kernel
theorem dX9_ahead_14 : decode cX9_ahead 14 = .ok (.if_icmp .gt 13, 3) := by decide +kernel
theorem dX9_ahead_17 : decode cX9_ahead 17 = .ok (.aload_n 0, 1) := by decide +kernel
theorem dX9_ahead_18 : decode cX9_ahead 18 = .ok (.getfield 65, 3) := by decide +kernel
theorem dX9_ahead_21 : decode cX9_ahead 21 = .ok (.invokevirtual 200, 3) := by decide +kernel
theorem dX9_ahead_24 : decode cX9_ahead 24 = .ok (.ifCond .eq 5, 3) := by decide +kernel
theorem dX9_ahead_27 : decode cX9_ahead 27 = .ok (.iconst (-1), 1) := by decide +kernel
theorem dX9_ahead_28 : decode cX9_ahead 28 = .ok (.ireturn, 1) := by decide +kernel
theorem dX9_ahead_29 : decode cX9_ahead 29 = .ok (.aload_n 0, 1) := by decide +kernel
theorem dX9_ahead_30 : decode cX9_ahead 30 = .ok (.invokevirtual 197, 3) := by decide +kernel
theorem dX9_ahead_33 : decode cX9_ahead 33 = .ok (.istore_n 3, 1) := by decide +kernel
theorem dX9_ahead_34 : decode cX9_ahead 34 = .ok (.aload_n 0, 1) := by decide +kernel
theorem dX9_ahead_35 : decode cX9_ahead 35 = .ok (.getfield 47, 3) := by decide +kernel
theorem dX9_ahead_38 : decode cX9_ahead 38 = .ok (.aload_n 0, 1) := by decide +kernel
theorem dX9_ahead_39 : decode cX9_ahead 39 = .ok (.getfield 65, 3) := by decide +kernel
theorem dX9_ahead_42 : decode cX9_ahead 42 = .ok (.iload_n 3, 1) := by decide +kernel
theorem dX9_ahead_43 : decode cX9_ahead 43 = .ok (.iload_n 1, 1) := by decide +kernel
theorem dX9_ahead_44 : decode cX9_ahead 44 = .ok (.aload_n 0, 1) := by decide +kernel
theorem dX9_ahead_45 : decode cX9_ahead 45 = .ok (.getfield 78, 3) := by decide +kernel
theorem dX9_ahead_48 : decode cX9_ahead 48 = .ok (.invokevirtual 203, 3) := by decide +kernel
theorem dX9_ahead_51 : decode cX9_ahead 51 = .ok (.ifCond .ne 6, 3) := by decide +kernel
theorem dX9_ahead_54 : decode cX9_ahead 54 = .ok (.bipush (-2), 2) := by decide +kernel
theorem dX9_ahead_56 : decode cX9_ahead 56 = .ok (.ireturn, 1) := by decide +kernel
theorem dX9_ahead_57 : decode cX9_ahead 57 = .ok (.aload_n 0, 1) := by decide +kernel
theorem dX9_ahead_58 : decode cX9_ahead 58 = .ok (.getfield 47, 3) := by decide +kernel
theorem dX9_ahead_61 : decode cX9_ahead 61 = .ok (.aload_n 0, 1) := by decide +kernel
theorem dX9_ahead_62 : decode cX9_ahead 62 = .ok (.getfield 65, 3) := by decide +kernel
theorem dX9_ahead_65 : decode cX9_ahead 65 = .ok (.iload_n 3, 1) := by decide +kernel
theorem dX9_ahead_66 : decode cX9_ahead 66 = .ok (.iload_n 1, 1) := by decide +kernel
theorem dX9_ahead_67 : decode cX9_ahead 67 = .ok (.aload_n 0, 1) := by decide +kernel
theorem dX9_ahead_68 : decode cX9_ahead 68 = .ok (.getfield 78, 3) := by decide +kernel
theorem dX9_ahead_71 : decode cX9_ahead 71 = .ok (.invokevirtual 223, 3) := by decide +kernel
theorem dX9_ahead_74 : decode cX9_ahead 74 = .ok (.istore 4, 2) := by decide +kernel
theorem dX9_ahead_76 : decode cX9_ahead 76 = .ok (.iload_n 2, 1) := by decide +kernel
theorem dX9_ahead_77 : decode cX9_ahead 77 = .ok (.ifCond .ne 11, 3) := by decide +kernel
theorem dX9_ahead_80 : decode cX9_ahead 80 = .ok (.iload 4, 2) := by decide +kernel
theorem dX9_ahead_82 : decode cX9_ahead 82 = .ok (.invokestatic 226, 3) := by decide +kernel
theorem dX9_ahead_85 : decode cX9_ahead 85 = .ok (.goto 5, 3) := by decide +kernel
theorem dX9_ahead_88 : decode cX9_ahead 88 = .ok (.iload 4, 2) := by decide +kernel
theorem dX9_ahead_90 : decode cX9_ahead 90 = .ok (.ireturn, 1) := by decide +kernel
theorem dX9_alike_0 : decode cX9_alike 0 = .ok (.aload_n 0, 1) := by decide +kernel
theorem dX9_alike_1 : decode cX9_alike 1 = .ok (.iload_n 1, 1) := by decide +kernel
theorem dX9_alike_2 : decode cX9_alike 2 = .ok (.invokevirtual 141, 3) := by decide +kernel
theorem dX9_alike_5 : decode cX9_alike 5 = .ok (.ifCond .eq 12, 3) := by decide +kernel
theorem dX9_alike_8 : decode cX9_alike 8 = .ok (.iload_n 2, 1) := by decide +kernel
theorem dX9_alike_9 : decode cX9_alike 9 = .ok (.ifCond .lt 8, 3) := by decide +kernel
theorem dX9_alike_12 : decode cX9_alike 12 = .ok (.iload_n 2, 1) := by decide +kernel
theorem dX9_alike_13 : decode cX9_alike 13 = .ok (.iconst 1, 1) := by decide +kernel
theorem dX9_alike_14 : decode cX9_alike 14 = .ok (.if_icmp .le 5, 3) := by decide +kernel
theorem dX9_alike_17 : decode cX9_alike 17 = .ok (.iconst (-1), 1) := by decide +kernel
theorem dX9_alike_18 : decode cX9_alike 18 = .ok (.ireturn, 1) := by decide +kernel
theorem dX9_alike_19 : decode cX9_alike 19 = .ok (.aload_n 0, 1) := by decide +kernel
theorem dX9_alike_20 : decode cX9_alike 20 = .ok (.invokevirtual 197, 3) := by decide +kernel
theorem dX9_alike_23 : decode cX9_alike 23 = .ok (.istore_n 3, 1) := by decide +kernel
theorem dX9_alike_24 : decode cX9_alike 24 = .ok (.aload_n 0, 1) := by decide +kernel
theorem dX9_alike_25 : decode cX9_alike 25 = .ok (.getfield 47, 3) := by decide +kernel
theorem dX9_alike_28 : decode cX9_alike 28 = .ok (.aload_n 0, 1) := by decide +kernel
theorem dX9_alike_29 : decode cX9_alike 29 = .ok (.getfield 65, 3) := by decide +kernel
theorem dX9_alike_32 : decode cX9_alike 32 = .ok (.iload_n 3, 1) := by decide +kernel
theorem dX9_alike_33 : decode cX9_alike 33 = .ok (.iload_n 1, 1) := by decide +kernel
theorem dX9_alike_34 : decode cX9_alike 34 = .ok (.aload_n 0, 1) := by decide +kernel
theorem dX9_alike_35 : decode cX9_alike 35 = .ok (.getfield 78, 3) := by decide +kernel
theorem dX9_alike_38 : decode cX9_alike 38 = .ok (.invokevirtual 231, 3) := by decide +kernel
theorem dX9_alike_41 : decode cX9_alike 41 = .ok (.istore 4, 2) := by decide +kernel
theorem dX9_alike_43 : decode cX9_alike 43 = .ok (.iload 4, 2) := by decide +kernel
theorem dX9_alike_45 : decode cX9_alike 45 = .ok (.iconst (-1), 1) := by decide +kernel
theorem dX9_alike_46 : decode cX9_alike 46 = .ok (.if_icmp .ne 6, 3) := by decide +kernel
theorem dX9_alike_49 : decode cX9_alike 49 = .ok (.bipush (-2), 2) := by decide +kernel
theorem dX9_alike_51 : decode cX9_alike 51 = .ok (.ireturn, 1) := by decide +kernel
theorem dX9_alike_52 : decode cX9_alike 52 = .ok (.iload_n 2, 1) := by decide +kernel
theorem dX9_alike_53 : decode cX9_alike 53 = .ok (.ifCond .ne 8, 3) := by decide +kernel
theorem dX9_alike_56 : decode cX9_alike 56 = .ok (.iload 4, 2) := by decide +kernel
theorem dX9_alike_58 : decode cX9_alike 58 = .ok (.goto 11, 3) := by decide +kernel
theorem dX9_alike_61 : decode cX9_alike 61 = .ok (.aload_n 0, 1) := by decide +kernel
theorem dX9_alike_62 : decode cX9_alike 62 = .ok (.iload 4, 2) := by decide +kernel
theorem dX9_alike_64 : decode cX9_alike 64 = .ok (.iload_n 3, 1) := by decide +kernel
theorem dX9_alike_65 : decode cX9_alike 65 = .ok (.iload_n 1, 1) := by decide +kernel
theorem dX9_alike_66 : decode cX9_alike 66 = .ok (.invokevirtual 234, 3) := by decide +kernel
theorem dX9_alike_69 : decode cX9_alike 69 = .ok (.ireturn, 1) := by decide +kernel
theorem dX9_lesser_0 : decode cX9_lesser 0 = .ok (.aload_n 0, 1) := by decide +kernel
theorem dX9_lesser_1 : decode cX9_lesser 1 = .ok (.getfield 19, 3) := by decide +kernel
theorem dX9_lesser_4 : decode cX9_lesser 4 = .ok (.iload_n 1, 1) := by decide +kernel
theorem dX9_lesser_5 : decode cX9_lesser 5 = .ok (.invokevirtual 102, 3) := by decide +kernel
theorem dX9_lesser_8 : decode cX9_lesser 8 = .ok (.ifCond .eq 23, 3) := by decide +kernel
theorem dX9_lesser_11 : decode cX9_lesser 11 = .ok (.aload_n 0, 1) := by decide +kernel
theorem dX9_lesser_12 : decode cX9_lesser 12 = .ok (.iload_n 2, 1) := by decide +kernel
theorem dX9_lesser_13 : decode cX9_lesser 13 = .ok (.invokevirtual 141, 3) := by decide +kernel
theorem dX9_lesser_16 : decode cX9_lesser 16 = .ok (.ifCond .eq 15, 3) := by decide +kernel
theorem dX9_lesser_19 : decode cX9_lesser 19 = .ok (.aload_n 0, 1) := by decide +kernel
theorem dX9_lesser_20 : decode cX9_lesser 20 = .ok (.getfield 19, 3) := by decide +kernel
theorem dX9_lesser_23 : decode cX9_lesser 23 = .ok (.iload_n 1, 1) := by decide +kernel
theorem dX9_lesser_24 : decode cX9_lesser 24 = .ok (.iload_n 2, 1) := by decide +kernel
theorem dX9_lesser_25 : decode cX9_lesser 25 = .ok (.invokevirtual 237, 3) := by decide +kernel
theorem dX9_lesser_28 : decode cX9_lesser 28 = .ok (.ifCond .ne 5, 3) := by decide +kernel
theorem dX9_lesser_31 : decode cX9_lesser 31 = .ok (.iconst (-1), 1) := by decide +kernel
theorem dX9_lesser_32 : decode cX9_lesser 32 = .ok (.ireturn, 1) := by decide +kernel
theorem dX9_lesser_33 : decode cX9_lesser 33 = .ok (.aload_n 0, 1) := by decide +kernel
theorem dX9_lesser_34 : decode cX9_lesser 34 = .ok (.getfield 19, 3) := by decide +kernel
theorem dX9_lesser_37 : decode cX9_lesser 37 = .ok (.iload_n 1, 1) := by decide +kernel
theorem dX9_lesser_38 : decode cX9_lesser 38 = .ok (.iload_n 2, 1) := by decide +kernel
theorem dX9_lesser_39 : decode cX9_lesser 39 = .ok (.aload_n 0, 1) := by decide +kernel
theorem dX9_lesser_40 : decode cX9_lesser 40 = .ok (.iload_n 2, 1) := by decide +kernel
theorem dX9_lesser_41 : decode cX9_lesser 41 = .ok (.invokevirtual 240, 3) := by decide +kernel
theorem dX9_lesser_44 : decode cX9_lesser 44 = .ok (.invokevirtual 243, 3) := by decide +kernel
theorem dX9_lesser_47 : decode cX9_lesser 47 = .ok (.istore_n 3, 1) := by decide +kernel
theorem dX9_lesser_48 : decode cX9_lesser 48 = .ok (.bipush (-2), 2) := by decide +kernel
theorem dX9_lesser_50 : decode cX9_lesser 50 = .ok (.istore 4, 2) := by decide +kernel
theorem dX9_lesser_52 : decode cX9_lesser 52 = .ok (.iconst 0, 1) := by decide +kernel
theorem dX9_lesser_53 : decode cX9_lesser 53 = .ok (.istore 5, 2) := by decide +kernel
theorem dX9_lesser_55 : decode cX9_lesser 55 = .ok (.iload 5, 2) := by decide +kernel
theorem dX9_lesser_57 : decode cX9_lesser 57 = .ok (.aload_n 0, 1) := by decide +kernel
theorem dX9_lesser_58 : decode cX9_lesser 58 = .ok (.getfield 78, 3) := by decide +kernel
theorem dX9_lesser_61 : decode cX9_lesser 61 = .ok (.if_icmp .ge 62, 3) := by decide +kernel
theorem dX9_lesser_64 : decode cX9_lesser 64 = .ok (.aload_n 0, 1) := by decide +kernel
theorem dX9_lesser_65 : decode cX9_lesser 65 = .ok (.getfield 19, 3) := by decide +kernel
theorem dX9_lesser_68 : decode cX9_lesser 68 = .ok (.iload_n 1, 1) := by decide +kernel
theorem dX9_lesser_69 : decode cX9_lesser 69 = .ok (.iload 5, 2) := by decide +kernel
theorem dX9_lesser_71 : decode cX9_lesser 71 = .ok (.aload_n 0, 1) := by decide +kernel
theorem dX9_lesser_72 : decode cX9_lesser 72 = .ok (.iload 5, 2) := by decide +kernel
theorem dX9_lesser_74 : decode cX9_lesser 74 = .ok (.invokevirtual 240, 3) := by decide +kernel
theorem dX9_lesser_77 : decode cX9_lesser 77 = .ok (.invokevirtual 243, 3) := by decide +kernel
theorem dX9_lesser_80 : decode cX9_lesser 80 = .ok (.istore 6, 2) := by decide +kernel
theorem dX9_lesser_82 : decode cX9_lesser 82 = .ok (.iload 5, 2) := by decide +kernel
theorem dX9_lesser_84 : decode cX9_lesser 84 = .ok (.iload_n 2, 1) := by decide +kernel
theorem dX9_lesser_85 : decode cX9_lesser 85 = .ok (.if_icmp .eq 32, 3) := by decide +kernel
theorem dX9_lesser_88 : decode cX9_lesser 88 = .ok (.iload 6, 2) := by decide +kernel
theorem dX9_lesser_90 : decode cX9_lesser 90 = .ok (.iload_n 3, 1) := by decide +kernel
theorem dX9_lesser_91 : decode cX9_lesser 91 = .ok (.if_icmp .ge 26, 3) := by decide +kernel
theorem dX9_lesser_94 : decode cX9_lesser 94 = .ok (.aload_n 0, 1) := by decide +kernel
theorem dX9_lesser_95 : decode cX9_lesser 95 = .ok (.iload_n 1, 1) := by decide +kernel
theorem dX9_lesser_96 : decode cX9_lesser 96 = .ok (.iload 5, 2) := by decide +kernel
theorem dX9_lesser_98 : decode cX9_lesser 98 = .ok (.aload_n 0, 1) := by decide +kernel
theorem dX9_lesser_99 : decode cX9_lesser 99 = .ok (.iload 5, 2) := by decide +kernel
theorem dX9_lesser_101 : decode cX9_lesser 101 = .ok (.invokevirtual 240, 3) := by decide +kernel
theorem dX9_lesser_104 : decode cX9_lesser 104 = .ok (.invokevirtual 144, 3) := by decide +kernel
theorem dX9_lesser_107 : decode cX9_lesser 107 = .ok (.ifCond .eq 10, 3) := by decide +kernel
theorem dX9_lesser_110 : decode cX9_lesser 110 = .ok (.iload 6, 2) := by decide +kernel
theorem dX9_lesser_112 : decode cX9_lesser 112 = .ok (.istore_n 3, 1) := by decide +kernel
theorem dX9_lesser_113 : decode cX9_lesser 113 = .ok (.iload 5, 2) := by decide +kernel
theorem dX9_lesser_115 : decode cX9_lesser 115 = .ok (.istore 4, 2) := by decide +kernel
theorem dX9_lesser_117 : decode cX9_lesser 117 = .ok (.iinc 5 1, 3) := by decide +kernel
theorem dX9_lesser_120 : decode cX9_lesser 120 = .ok (.goto (-65), 3) := by decide +kernel
theorem dX9_lesser_123 : decode cX9_lesser 123 = .ok (.iload 4, 2) := by decide +kernel
theorem dX9_lesser_125 : decode cX9_lesser 125 = .ok (.ireturn, 1) := by decide +kernel
theorem dX9_best_0 : decode cX9_best 0 = .ok (.aload_n 0, 1) := by decide +kernel
theorem dX9_best_1 : decode cX9_best 1 = .ok (.getfield 19, 3) := by decide +kernel
theorem dX9_best_4 : decode cX9_best 4 = .ok (.iload_n 1, 1) := by decide +kernel
theorem dX9_best_5 : decode cX9_best 5 = .ok (.invokevirtual 102, 3) := by decide +kernel
theorem dX9_best_8 : decode cX9_best 8 = .ok (.ifCond .eq 12, 3) := by decide +kernel
theorem dX9_best_11 : decode cX9_best 11 = .ok (.iload_n 2, 1) := by decide +kernel
theorem dX9_best_12 : decode cX9_best 12 = .ok (.ifCond .lt 8, 3) := by decide +kernel
theorem dX9_best_15 : decode cX9_best 15 = .ok (.iload_n 2, 1) := by decide +kernel
theorem dX9_best_16 : decode cX9_best 16 = .ok (.iconst 1, 1) := by decide +kernel
theorem dX9_best_17 : decode cX9_best 17 = .ok (.if_icmp .le 5, 3) := by decide +kernel
theorem dX9_best_20 : decode cX9_best 20 = .ok (.iconst (-1), 1) := by decide +kernel
theorem dX9_best_21 : decode cX9_best 21 = .ok (.ireturn, 1) := by decide +kernel
theorem dX9_best_22 : decode cX9_best 22 = .ok (.aload_n 0, 1) := by decide +kernel
theorem dX9_best_23 : decode cX9_best 23 = .ok (.iload_n 1, 1) := by decide +kernel
theorem dX9_best_24 : decode cX9_best 24 = .ok (.invokevirtual 246, 3) := by decide +kernel
theorem dX9_best_27 : decode cX9_best 27 = .ok (.istore_n 3, 1) := by decide +kernel
theorem dX9_best_28 : decode cX9_best 28 = .ok (.aload_n 0, 1) := by decide +kernel
theorem dX9_best_29 : decode cX9_best 29 = .ok (.iload_n 1, 1) := by decide +kernel
theorem dX9_best_30 : decode cX9_best 30 = .ok (.iload_n 3, 1) := by decide +kernel
theorem dX9_best_31 : decode cX9_best 31 = .ok (.invokevirtual 249, 3) := by decide +kernel
theorem dX9_best_34 : decode cX9_best 34 = .ok (.istore 4, 2) := by decide +kernel
theorem dX9_best_36 : decode cX9_best 36 = .ok (.iload_n 2, 1) := by decide +kernel
theorem dX9_best_37 : decode cX9_best 37 = .ok (.ifCond .ne 14, 3) := by decide +kernel
theorem dX9_best_40 : decode cX9_best 40 = .ok (.aload_n 0, 1) := by decide +kernel
theorem dX9_best_41 : decode cX9_best 41 = .ok (.iload_n 1, 1) := by decide +kernel
theorem dX9_best_42 : decode cX9_best 42 = .ok (.iload 4, 2) := by decide +kernel
theorem dX9_best_44 : decode cX9_best 44 = .ok (.iload_n 3, 1) := by decide +kernel
theorem dX9_best_45 : decode cX9_best 45 = .ok (.invokevirtual 252, 3) := by decide +kernel
theorem dX9_best_48 : decode cX9_best 48 = .ok (.goto 5, 3) := by decide +kernel
theorem dX9_best_51 : decode cX9_best 51 = .ok (.iload 4, 2) := by decide +kernel
theorem dX9_best_53 : decode cX9_best 53 = .ok (.ireturn, 1) := by decide +kernel
theorem dX9_judge_0 : decode cX9_judge 0 = .ok (.iload_n 1, 1) := by decide +kernel
theorem dX9_judge_1 : decode cX9_judge 1 = .ok (.iconst 1, 1) := by decide +kernel
theorem dX9_judge_2 : decode cX9_judge 2 = .ok (.if_icmp .lt 31, 3) := by decide +kernel
theorem dX9_judge_5 : decode cX9_judge 5 = .ok (.iload_n 1, 1) := by decide +kernel
theorem dX9_judge_6 : decode cX9_judge 6 = .ok (.bipush 40, 2) := by decide +kernel
theorem dX9_judge_8 : decode cX9_judge 8 = .ok (.if_icmp .gt 25, 3) := by decide +kernel
theorem dX9_judge_11 : decode cX9_judge 11 = .ok (.iload_n 2, 1) := by decide +kernel
theorem dX9_judge_12 : decode cX9_judge 12 = .ok (.ifCond .lt 21, 3) := by decide +kernel
theorem dX9_judge_15 : decode cX9_judge 15 = .ok (.iload_n 2, 1) := by decide +kernel
theorem dX9_judge_16 : decode cX9_judge 16 = .ok (.iconst 2, 1) := by decide +kernel
theorem dX9_judge_17 : decode cX9_judge 17 = .ok (.if_icmp .gt 16, 3) := by decide +kernel
theorem dX9_judge_20 : decode cX9_judge 20 = .ok (.iconst 3, 1) := by decide +kernel
theorem dX9_judge_21 : decode cX9_judge 21 = .ok (.iload_n 1, 1) := by decide +kernel
theorem dX9_judge_22 : decode cX9_judge 22 = .ok (.imul, 1) := by decide +kernel
theorem dX9_judge_23 : decode cX9_judge 23 = .ok (.aload_n 0, 1) := by decide +kernel
theorem dX9_judge_24 : decode cX9_judge 24 = .ok (.getfield 10, 3) := by decide +kernel
theorem dX9_judge_27 : decode cX9_judge 27 = .ok (.invokevirtual 125, 3) := by decide +kernel
theorem dX9_judge_30 : decode cX9_judge 30 = .ok (.if_icmp .le 6, 3) := by decide +kernel
theorem dX9_judge_33 : decode cX9_judge 33 = .ok (.bipush (-3), 2) := by decide +kernel
theorem dX9_judge_35 : decode cX9_judge 35 = .ok (.ireturn, 1) := by decide +kernel
theorem dX9_judge_36 : decode cX9_judge 36 = .ok (.aload_n 0, 1) := by decide +kernel
theorem dX9_judge_37 : decode cX9_judge 37 = .ok (.iload_n 1, 1) := by decide +kernel
theorem dX9_judge_38 : decode cX9_judge 38 = .ok (.invokevirtual 255, 3) := by decide +kernel
theorem dX9_judge_41 : decode cX9_judge 41 = .ok (.ifCond .eq 8, 3) := by decide +kernel
theorem dX9_judge_44 : decode cX9_judge 44 = .ok (.bipush (-2), 2) := by decide +kernel
theorem dX9_judge_46 : decode cX9_judge 46 = .ok (.goto 9, 3) := by decide +kernel
theorem dX9_judge_49 : decode cX9_judge 49 = .ok (.aload_n 0, 1) := by decide +kernel
theorem dX9_judge_50 : decode cX9_judge 50 = .ok (.iload_n 1, 1) := by decide +kernel
theorem dX9_judge_51 : decode cX9_judge 51 = .ok (.iload_n 2, 1) := by decide +kernel
theorem dX9_judge_52 : decode cX9_judge 52 = .ok (.invokevirtual 258, 3) := by decide +kernel
theorem dX9_judge_55 : decode cX9_judge 55 = .ok (.istore_n 3, 1) := by decide +kernel
theorem dX9_judge_56 : decode cX9_judge 56 = .ok (.aload_n 0, 1) := by decide +kernel
theorem dX9_judge_57 : decode cX9_judge 57 = .ok (.getfield 10, 3) := by decide +kernel
theorem dX9_judge_60 : decode cX9_judge 60 = .ok (.invokevirtual 130, 3) := by decide +kernel
theorem dX9_judge_63 : decode cX9_judge 63 = .ok (.iload_n 3, 1) := by decide +kernel
theorem dX9_judge_64 : decode cX9_judge 64 = .ok (.ireturn, 1) := by decide +kernel
theorem dX9_seed_0 : decode cX9_seed 0 = .ok (.iload_n 1, 1) := by decide +kernel
theorem dX9_seed_1 : decode cX9_seed 1 = .ok (.ifCond .lt 10, 3) := by decide +kernel
theorem dX9_seed_4 : decode cX9_seed 4 = .ok (.iload_n 1, 1) := by decide +kernel
theorem dX9_seed_5 : decode cX9_seed 5 = .ok (.ldc_w 261, 3) := by decide +kernel
theorem dX9_seed_8 : decode cX9_seed 8 = .ok (.if_icmp .le 5, 3) := by decide +kernel
theorem dX9_seed_11 : decode cX9_seed 11 = .ok (.iconst 0, 1) := by decide +kernel
theorem dX9_seed_12 : decode cX9_seed 12 = .ok (.ireturn, 1) := by decide +kernel
theorem dX9_seed_13 : decode cX9_seed 13 = .ok (.aload_n 0, 1) := by decide +kernel
theorem dX9_seed_14 : decode cX9_seed 14 = .ok (.iload_n 1, 1) := by decide +kernel
theorem dX9_seed_15 : decode cX9_seed 15 = .ok (.putfield 85, 3) := by decide +kernel
theorem dX9_seed_18 : decode cX9_seed 18 = .ok (.iconst 1, 1) := by decide +kernel
theorem dX9_seed_19 : decode cX9_seed 19 = .ok (.ireturn, 1) := by decide +kernel
theorem dX9_draw_0 : decode cX9_draw 0 = .ok (.aload_n 0, 1) := by decide +kernel
theorem dX9_draw_1 : decode cX9_draw 1 = .ok (.getfield 19, 3) := by decide +kernel
theorem dX9_draw_4 : decode cX9_draw 4 = .ok (.invokevirtual 262, 3) := by decide +kernel
theorem dX9_draw_7 : decode cX9_draw 7 = .ok (.istore_n 2, 1) := by decide +kernel
theorem dX9_draw_8 : decode cX9_draw 8 = .ok (.iload_n 1, 1) := by decide +kernel
theorem dX9_draw_9 : decode cX9_draw 9 = .ok (.iconst 1, 1) := by decide +kernel
theorem dX9_draw_10 : decode cX9_draw 10 = .ok (.if_icmp .lt 22, 3) := by decide +kernel
theorem dX9_draw_13 : decode cX9_draw 13 = .ok (.iload_n 1, 1) := by decide +kernel
theorem dX9_draw_14 : decode cX9_draw 14 = .ok (.bipush 40, 2) := by decide +kernel
theorem dX9_draw_16 : decode cX9_draw 16 = .ok (.if_icmp .gt 16, 3) := by decide +kernel
theorem dX9_draw_19 : decode cX9_draw 19 = .ok (.iload_n 2, 1) := by decide +kernel
theorem dX9_draw_20 : decode cX9_draw 20 = .ok (.iconst 1, 1) := by decide +kernel
theorem dX9_draw_21 : decode cX9_draw 21 = .ok (.if_icmp .lt 11, 3) := by decide +kernel
theorem dX9_draw_24 : decode cX9_draw 24 = .ok (.aload_n 0, 1) := by decide +kernel
theorem dX9_draw_25 : decode cX9_draw 25 = .ok (.getfield 78, 3) := by decide +kernel
theorem dX9_draw_28 : decode cX9_draw 28 = .ok (.iconst 1, 1) := by decide +kernel
theorem dX9_draw_29 : decode cX9_draw 29 = .ok (.if_icmp .ge 5, 3) := by decide +kernel
theorem dX9_draw_32 : decode cX9_draw 32 = .ok (.iconst (-1), 1) := by decide +kernel
theorem dX9_draw_33 : decode cX9_draw 33 = .ok (.ireturn, 1) := by decide +kernel
theorem dX9_draw_34 : decode cX9_draw 34 = .ok (.iconst 0, 1) := by decide +kernel
theorem dX9_draw_35 : decode cX9_draw 35 = .ok (.istore_n 3, 1) := by decide +kernel
theorem dX9_draw_36 : decode cX9_draw 36 = .ok (.iconst 0, 1) := by decide +kernel
theorem dX9_draw_37 : decode cX9_draw 37 = .ok (.istore 4, 2) := by decide +kernel
theorem dX9_draw_39 : decode cX9_draw 39 = .ok (.iload 4, 2) := by decide +kernel
theorem dX9_draw_41 : decode cX9_draw 41 = .ok (.iload_n 1, 1) := by decide +kernel
theorem dX9_draw_42 : decode cX9_draw 42 = .ok (.if_icmp .ge 68, 3) := by decide +kernel
theorem dX9_draw_45 : decode cX9_draw 45 = .ok (.aload_n 0, 1) := by decide +kernel
theorem dX9_draw_46 : decode cX9_draw 46 = .ok (.getfield 26, 3) := by decide +kernel
theorem dX9_draw_49 : decode cX9_draw 49 = .ok (.invokevirtual 148, 3) := by decide +kernel
theorem dX9_draw_52 : decode cX9_draw 52 = .ok (.ifCond .ne 58, 3) := by decide +kernel
theorem dX9_draw_55 : decode cX9_draw 55 = .ok (.aload_n 0, 1) := by decide +kernel
theorem dX9_draw_56 : decode cX9_draw 56 = .ok (.sipush 25173, 3) := by decide +kernel
theorem dX9_draw_59 : decode cX9_draw 59 = .ok (.aload_n 0, 1) := by decide +kernel
theorem dX9_draw_60 : decode cX9_draw 60 = .ok (.getfield 85, 3) := by decide +kernel
theorem dX9_draw_63 : decode cX9_draw 63 = .ok (.imul, 1) := by decide +kernel
theorem dX9_draw_64 : decode cX9_draw 64 = .ok (.sipush 13849, 3) := by decide +kernel
theorem dX9_draw_67 : decode cX9_draw 67 = .ok (.iadd, 1) := by decide +kernel
theorem dX9_draw_68 : decode cX9_draw 68 = .ok (.ldc_w 261, 3) := by decide +kernel
theorem dX9_draw_71 : decode cX9_draw 71 = .ok (.iand, 1) := by decide +kernel
theorem dX9_draw_72 : decode cX9_draw 72 = .ok (.putfield 85, 3) := by decide +kernel
theorem dX9_draw_75 : decode cX9_draw 75 = .ok (.aload_n 0, 1) := by decide +kernel
theorem dX9_draw_76 : decode cX9_draw 76 = .ok (.aload_n 0, 1) := by decide +kernel
theorem dX9_draw_77 : decode cX9_draw 77 = .ok (.getfield 85, 3) := by decide +kernel
theorem dX9_draw_80 : decode cX9_draw 80 = .ok (.iload_n 2, 1) := by decide +kernel
theorem dX9_draw_81 : decode cX9_draw 81 = .ok (.irem, 1) := by decide +kernel
theorem dX9_draw_82 : decode cX9_draw 82 = .ok (.aload_n 0, 1) := by decide +kernel
theorem dX9_draw_83 : decode cX9_draw 83 = .ok (.getfield 85, 3) := by decide +kernel
theorem dX9_draw_86 : decode cX9_draw 86 = .ok (.bipush 8, 2) := by decide +kernel
theorem dX9_draw_88 : decode cX9_draw 88 = .ok (.idiv, 1) := by decide +kernel
theorem dX9_draw_89 : decode cX9_draw 89 = .ok (.aload_n 0, 1) := by decide +kernel
theorem dX9_draw_90 : decode cX9_draw 90 = .ok (.getfield 78, 3) := by decide +kernel
theorem dX9_draw_93 : decode cX9_draw 93 = .ok (.irem, 1) := by decide +kernel
theorem dX9_draw_94 : decode cX9_draw 94 = .ok (.invokevirtual 151, 3) := by decide +kernel
theorem dX9_draw_97 : decode cX9_draw 97 = .ok (.iconst 2, 1) := by decide +kernel
theorem dX9_draw_98 : decode cX9_draw 98 = .ok (.if_icmp .ne 6, 3) := by decide +kernel
theorem dX9_draw_101 : decode cX9_draw 101 = .ok (.iinc 3 1, 3) := by decide +kernel
theorem dX9_draw_104 : decode cX9_draw 104 = .ok (.iinc 4 1, 3) := by decide +kernel
theorem dX9_draw_107 : decode cX9_draw 107 = .ok (.goto (-68), 3) := by decide +kernel
theorem dX9_draw_110 : decode cX9_draw 110 = .ok (.iload_n 3, 1) := by decide +kernel
theorem dX9_draw_111 : decode cX9_draw 111 = .ok (.ireturn, 1) := by decide +kernel
theorem dX9_check_0 : decode cX9_check 0 = .ok (.iload_n 1, 1) := by decide +kernel
theorem dX9_check_1 : decode cX9_check 1 = .ok (.ifCond .lt 17, 3) := by decide +kernel
theorem dX9_check_4 : decode cX9_check 4 = .ok (.iload_n 1, 1) := by decide +kernel
theorem dX9_check_5 : decode cX9_check 5 = .ok (.aload_n 0, 1) := by decide +kernel
theorem dX9_check_6 : decode cX9_check 6 = .ok (.getfield 10, 3) := by decide +kernel
theorem dX9_check_9 : decode cX9_check 9 = .ok (.invokevirtual 125, 3) := by decide +kernel
theorem dX9_check_12 : decode cX9_check 12 = .ok (.bipush 12, 2) := by decide +kernel
theorem dX9_check_14 : decode cX9_check 14 = .ok (.idiv, 1) := by decide +kernel
theorem dX9_check_15 : decode cX9_check 15 = .ok (.if_icmp .le 6, 3) := by decide +kernel
theorem dX9_check_18 : decode cX9_check 18 = .ok (.bipush (-2), 2) := by decide +kernel
theorem dX9_check_20 : decode cX9_check 20 = .ok (.ireturn, 1) := by decide +kernel
theorem dX9_check_21 : decode cX9_check 21 = .ok (.aload_n 0, 1) := by decide +kernel
theorem dX9_check_22 : decode cX9_check 22 = .ok (.iconst 3, 1) := by decide +kernel
theorem dX9_check_23 : decode cX9_check 23 = .ok (.iload_n 1, 1) := by decide +kernel
theorem dX9_check_24 : decode cX9_check 24 = .ok (.imul, 1) := by decide +kernel
theorem dX9_check_25 : decode cX9_check 25 = .ok (.invokevirtual 263, 3) := by decide +kernel
theorem dX9_check_28 : decode cX9_check 28 = .ok (.istore_n 2, 1) := by decide +kernel
theorem dX9_check_29 : decode cX9_check 29 = .ok (.aload_n 0, 1) := by decide +kernel
theorem dX9_check_30 : decode cX9_check 30 = .ok (.getfield 10, 3) := by decide +kernel
theorem dX9_check_33 : decode cX9_check 33 = .ok (.invokevirtual 130, 3) := by decide +kernel
theorem dX9_check_36 : decode cX9_check 36 = .ok (.iload_n 2, 1) := by decide +kernel
theorem dX9_check_37 : decode cX9_check 37 = .ok (.ireturn, 1) := by decide +kernel
theorem dX9_count_0 : decode cX9_count 0 = .ok (.iload_n 1, 1) := by decide +kernel
theorem dX9_count_1 : decode cX9_count 1 = .ok (.tableswitch 103 0 7 #[47, 52, 60, 68, 76, 84, 89, 94], 47) := by decide +kernel
theorem dX9_count_48 : decode cX9_count 48 = .ok (.aload_n 0, 1) := by decide +kernel
theorem dX9_count_49 : decode cX9_count 49 = .ok (.getfield 78, 3) := by decide +kernel
theorem dX9_count_52 : decode cX9_count 52 = .ok (.ireturn, 1) := by decide +kernel
theorem dX9_count_53 : decode cX9_count 53 = .ok (.aload_n 0, 1) := by decide +kernel
theorem dX9_count_54 : decode cX9_count 54 = .ok (.getfield 19, 3) := by decide +kernel
theorem dX9_count_57 : decode cX9_count 57 = .ok (.invokevirtual 262, 3) := by decide +kernel
theorem dX9_count_60 : decode cX9_count 60 = .ok (.ireturn, 1) := by decide +kernel
theorem dX9_count_61 : decode cX9_count 61 = .ok (.aload_n 0, 1) := by decide +kernel
theorem dX9_count_62 : decode cX9_count 62 = .ok (.getfield 74, 3) := by decide +kernel
theorem dX9_count_65 : decode cX9_count 65 = .ok (.invokevirtual 266, 3) := by decide +kernel
theorem dX9_count_68 : decode cX9_count 68 = .ok (.ireturn, 1) := by decide +kernel
theorem dX9_count_69 : decode cX9_count 69 = .ok (.aload_n 0, 1) := by decide +kernel
theorem dX9_count_70 : decode cX9_count 70 = .ok (.getfield 10, 3) := by decide +kernel
theorem dX9_count_73 : decode cX9_count 73 = .ok (.invokevirtual 125, 3) := by decide +kernel
theorem dX9_count_76 : decode cX9_count 76 = .ok (.ireturn, 1) := by decide +kernel
theorem dX9_count_77 : decode cX9_count 77 = .ok (.aload_n 0, 1) := by decide +kernel
theorem dX9_count_78 : decode cX9_count 78 = .ok (.getfield 26, 3) := by decide +kernel
theorem dX9_count_81 : decode cX9_count 81 = .ok (.invokevirtual 159, 3) := by decide +kernel
theorem dX9_count_84 : decode cX9_count 84 = .ok (.ireturn, 1) := by decide +kernel
theorem dX9_count_85 : decode cX9_count 85 = .ok (.aload_n 0, 1) := by decide +kernel
theorem dX9_count_86 : decode cX9_count 86 = .ok (.getfield 85, 3) := by decide +kernel
theorem dX9_count_89 : decode cX9_count 89 = .ok (.ireturn, 1) := by decide +kernel
theorem dX9_count_90 : decode cX9_count 90 = .ok (.aload_n 0, 1) := by decide +kernel
theorem dX9_count_91 : decode cX9_count 91 = .ok (.getfield 82, 3) := by decide +kernel
theorem dX9_count_94 : decode cX9_count 94 = .ok (.ireturn, 1) := by decide +kernel
theorem dX9_count_95 : decode cX9_count 95 = .ok (.aload_n 0, 1) := by decide +kernel
theorem dX9_count_96 : decode cX9_count 96 = .ok (.aload_n 0, 1) := by decide +kernel
theorem dX9_count_97 : decode cX9_count 97 = .ok (.getfield 65, 3) := by decide +kernel
theorem dX9_count_100 : decode cX9_count 100 = .ok (.invokevirtual 269, 3) := by decide +kernel
theorem dX9_count_103 : decode cX9_count 103 = .ok (.ireturn, 1) := by decide +kernel
theorem dX9_count_104 : decode cX9_count 104 = .ok (.aload_n 0, 1) := by decide +kernel
theorem dX9_count_105 : decode cX9_count 105 = .ok (.iload_n 1, 1) := by decide +kernel
theorem dX9_count_106 : decode cX9_count 106 = .ok (.invokevirtual 273, 3) := by decide +kernel
theorem dX9_count_109 : decode cX9_count 109 = .ok (.ireturn, 1) := by decide +kernel
theorem dX9_countOfPerson_0 : decode cX9_countOfPerson 0 = .ok (.iload_n 1, 1) := by decide +kernel
theorem dX9_countOfPerson_1 : decode cX9_countOfPerson 1 = .ok (.bipush 10, 2) := by decide +kernel
theorem dX9_countOfPerson_3 : decode cX9_countOfPerson 3 = .ok (.if_icmp .lt 35, 3) := by decide +kernel
theorem dX9_countOfPerson_6 : decode cX9_countOfPerson 6 = .ok (.iload_n 1, 1) := by decide +kernel
theorem dX9_countOfPerson_7 : decode cX9_countOfPerson 7 = .ok (.bipush 20, 2) := by decide +kernel
theorem dX9_countOfPerson_9 : decode cX9_countOfPerson 9 = .ok (.if_icmp .ge 29, 3) := by decide +kernel
theorem dX9_countOfPerson_12 : decode cX9_countOfPerson 12 = .ok (.aload_n 0, 1) := by decide +kernel
theorem dX9_countOfPerson_13 : decode cX9_countOfPerson 13 = .ok (.getfield 19, 3) := by decide +kernel
theorem dX9_countOfPerson_16 : decode cX9_countOfPerson 16 = .ok (.iload_n 1, 1) := by decide +kernel
theorem dX9_countOfPerson_17 : decode cX9_countOfPerson 17 = .ok (.bipush 10, 2) := by decide +kernel
theorem dX9_countOfPerson_19 : decode cX9_countOfPerson 19 = .ok (.isub, 1) := by decide +kernel
theorem dX9_countOfPerson_20 : decode cX9_countOfPerson 20 = .ok (.invokevirtual 102, 3) := by decide +kernel
theorem dX9_countOfPerson_23 : decode cX9_countOfPerson 23 = .ok (.ifCond .eq 15, 3) := by decide +kernel
theorem dX9_countOfPerson_26 : decode cX9_countOfPerson 26 = .ok (.aload_n 0, 1) := by decide +kernel
theorem dX9_countOfPerson_27 : decode cX9_countOfPerson 27 = .ok (.getfield 19, 3) := by decide +kernel
theorem dX9_countOfPerson_30 : decode cX9_countOfPerson 30 = .ok (.iload_n 1, 1) := by decide +kernel
theorem dX9_countOfPerson_31 : decode cX9_countOfPerson 31 = .ok (.bipush 10, 2) := by decide +kernel
theorem dX9_countOfPerson_33 : decode cX9_countOfPerson 33 = .ok (.isub, 1) := by decide +kernel
theorem dX9_countOfPerson_34 : decode cX9_countOfPerson 34 = .ok (.invokevirtual 276, 3) := by decide +kernel
theorem dX9_countOfPerson_37 : decode cX9_countOfPerson 37 = .ok (.ireturn, 1) := by decide +kernel
theorem dX9_countOfPerson_38 : decode cX9_countOfPerson 38 = .ok (.iload_n 1, 1) := by decide +kernel
theorem dX9_countOfPerson_39 : decode cX9_countOfPerson 39 = .ok (.bipush 20, 2) := by decide +kernel
theorem dX9_countOfPerson_41 : decode cX9_countOfPerson 41 = .ok (.if_icmp .lt 29, 3) := by decide +kernel
theorem dX9_countOfPerson_44 : decode cX9_countOfPerson 44 = .ok (.aload_n 0, 1) := by decide +kernel
theorem dX9_countOfPerson_45 : decode cX9_countOfPerson 45 = .ok (.getfield 19, 3) := by decide +kernel
theorem dX9_countOfPerson_48 : decode cX9_countOfPerson 48 = .ok (.iload_n 1, 1) := by decide +kernel
theorem dX9_countOfPerson_49 : decode cX9_countOfPerson 49 = .ok (.bipush 20, 2) := by decide +kernel
theorem dX9_countOfPerson_51 : decode cX9_countOfPerson 51 = .ok (.isub, 1) := by decide +kernel
theorem dX9_countOfPerson_52 : decode cX9_countOfPerson 52 = .ok (.invokevirtual 102, 3) := by decide +kernel
theorem dX9_countOfPerson_55 : decode cX9_countOfPerson 55 = .ok (.ifCond .eq 15, 3) := by decide +kernel
theorem dX9_countOfPerson_58 : decode cX9_countOfPerson 58 = .ok (.aload_n 0, 1) := by decide +kernel
theorem dX9_countOfPerson_59 : decode cX9_countOfPerson 59 = .ok (.getfield 19, 3) := by decide +kernel
theorem dX9_countOfPerson_62 : decode cX9_countOfPerson 62 = .ok (.iload_n 1, 1) := by decide +kernel
theorem dX9_countOfPerson_63 : decode cX9_countOfPerson 63 = .ok (.bipush 20, 2) := by decide +kernel
theorem dX9_countOfPerson_65 : decode cX9_countOfPerson 65 = .ok (.isub, 1) := by decide +kernel
theorem dX9_countOfPerson_66 : decode cX9_countOfPerson 66 = .ok (.invokevirtual 279, 3) := by decide +kernel
theorem dX9_countOfPerson_69 : decode cX9_countOfPerson 69 = .ok (.ireturn, 1) := by decide +kernel
theorem dX9_countOfPerson_70 : decode cX9_countOfPerson 70 = .ok (.iconst (-1), 1) := by decide +kernel
theorem dX9_countOfPerson_71 : decode cX9_countOfPerson 71 = .ok (.ireturn, 1) := by decide +kernel
theorem dX9_allFacts_0 : decode cX9_allFacts 0 = .ok (.iconst 1, 1) := by decide +kernel
theorem dX9_allFacts_1 : decode cX9_allFacts 1 = .ok (.aload_n 0, 1) := by decide +kernel
theorem dX9_allFacts_2 : decode cX9_allFacts 2 = .ok (.getfield 78, 3) := by decide +kernel
theorem dX9_allFacts_5 : decode cX9_allFacts 5 = .ok (.ishl, 1) := by decide +kernel
theorem dX9_allFacts_6 : decode cX9_allFacts 6 = .ok (.iconst 1, 1) := by decide +kernel
theorem dX9_allFacts_7 : decode cX9_allFacts 7 = .ok (.isub, 1) := by decide +kernel
theorem dX9_allFacts_8 : decode cX9_allFacts 8 = .ok (.ireturn, 1) := by decide +kernel
theorem dX9_isFact_0 : decode cX9_isFact 0 = .ok (.iload_n 1, 1) := by decide +kernel
theorem dX9_isFact_1 : decode cX9_isFact 1 = .ok (.ifCond .lt 15, 3) := by decide +kernel
theorem dX9_isFact_4 : decode cX9_isFact 4 = .ok (.iload_n 1, 1) := by decide +kernel
theorem dX9_isFact_5 : decode cX9_isFact 5 = .ok (.aload_n 0, 1) := by decide +kernel
theorem dX9_isFact_6 : decode cX9_isFact 6 = .ok (.getfield 78, 3) := by decide +kernel
theorem dX9_isFact_9 : decode cX9_isFact 9 = .ok (.if_icmp .ge 7, 3) := by decide +kernel
theorem dX9_isFact_12 : decode cX9_isFact 12 = .ok (.iconst 1, 1) := by decide +kernel
theorem dX9_isFact_13 : decode cX9_isFact 13 = .ok (.goto 4, 3) := by decide +kernel
theorem dX9_isFact_16 : decode cX9_isFact 16 = .ok (.iconst 0, 1) := by decide +kernel
theorem dX9_isFact_17 : decode cX9_isFact 17 = .ok (.ireturn, 1) := by decide +kernel
theorem dX9_isValue_0 : decode cX9_isValue 0 = .ok (.iload_n 0, 1) := by decide +kernel
theorem dX9_isValue_1 : decode cX9_isValue 1 = .ok (.ifCond .eq 8, 3) := by decide +kernel
theorem dX9_isValue_4 : decode cX9_isValue 4 = .ok (.iload_n 0, 1) := by decide +kernel
theorem dX9_isValue_5 : decode cX9_isValue 5 = .ok (.iconst 1, 1) := by decide +kernel
theorem dX9_isValue_6 : decode cX9_isValue 6 = .ok (.if_icmp .ne 7, 3) := by decide +kernel
theorem dX9_isValue_9 : decode cX9_isValue 9 = .ok (.iconst 1, 1) := by decide +kernel
theorem dX9_isValue_10 : decode cX9_isValue 10 = .ok (.goto 4, 3) := by decide +kernel
theorem dX9_isValue_13 : decode cX9_isValue 13 = .ok (.iconst 0, 1) := by decide +kernel
theorem dX9_isValue_14 : decode cX9_isValue 14 = .ok (.ireturn, 1) := by decide +kernel
theorem dX9_trueValue_0 : decode cX9_trueValue 0 = .ok (.aload_n 0, 1) := by decide +kernel
theorem dX9_trueValue_1 : decode cX9_trueValue 1 = .ok (.getfield 82, 3) := by decide +kernel
theorem dX9_trueValue_4 : decode cX9_trueValue 4 = .ok (.iload_n 1, 1) := by decide +kernel
theorem dX9_trueValue_5 : decode cX9_trueValue 5 = .ok (.ishr, 1) := by decide +kernel
theorem dX9_trueValue_6 : decode cX9_trueValue 6 = .ok (.iconst 1, 1) := by decide +kernel
theorem dX9_trueValue_7 : decode cX9_trueValue 7 = .ok (.iand, 1) := by decide +kernel
theorem dX9_trueValue_8 : decode cX9_trueValue 8 = .ok (.ireturn, 1) := by decide +kernel
theorem dX9_startHearing_0 : decode cX9_startHearing 0 = .ok (.aload_n 0, 1) := by decide +kernel
theorem dX9_startHearing_1 : decode cX9_startHearing 1 = .ok (.getfield 61, 3) := by decide +kernel
theorem dX9_startHearing_4 : decode cX9_startHearing 4 = .ok (.invokevirtual 282, 3) := by decide +kernel
theorem dX9_startHearing_7 : decode cX9_startHearing 7 = .ok (.aload_n 0, 1) := by decide +kernel
theorem dX9_startHearing_8 : decode cX9_startHearing 8 = .ok (.getfield 33, 3) := by decide +kernel
theorem dX9_startHearing_11 : decode cX9_startHearing 11 = .ok (.invokevirtual 283, 3) := by decide +kernel
theorem dX9_startHearing_14 : decode cX9_startHearing 14 = .ok (.iconst 1, 1) := by decide +kernel
theorem dX9_startHearing_15 : decode cX9_startHearing 15 = .ok (.aload_n 0, 1) := by decide +kernel
theorem dX9_startHearing_16 : decode cX9_startHearing 16 = .ok (.getfield 78, 3) := by decide +kernel
theorem dX9_startHearing_19 : decode cX9_startHearing 19 = .ok (.ishl, 1) := by decide +kernel
theorem dX9_startHearing_20 : decode cX9_startHearing 20 = .ok (.istore_n 1, 1) := by decide +kernel
theorem dX9_startHearing_21 : decode cX9_startHearing 21 = .ok (.iconst 0, 1) := by decide +kernel
theorem dX9_startHearing_22 : decode cX9_startHearing 22 = .ok (.istore_n 2, 1) := by decide +kernel
theorem dX9_startHearing_23 : decode cX9_startHearing 23 = .ok (.iload_n 2, 1) := by decide +kernel
theorem dX9_startHearing_24 : decode cX9_startHearing 24 = .ok (.iload_n 1, 1) := by decide +kernel
theorem dX9_startHearing_25 : decode cX9_startHearing 25 = .ok (.if_icmp .ge 42, 3) := by decide +kernel
theorem dX9_startHearing_28 : decode cX9_startHearing 28 = .ok (.aload_n 0, 1) := by decide +kernel
theorem dX9_startHearing_29 : decode cX9_startHearing 29 = .ok (.getfield 33, 3) := by decide +kernel
theorem dX9_startHearing_32 : decode cX9_startHearing 32 = .ok (.iload_n 2, 1) := by decide +kernel
theorem dX9_startHearing_33 : decode cX9_startHearing 33 = .ok (.invokevirtual 286, 3) := by decide +kernel
theorem dX9_startHearing_36 : decode cX9_startHearing 36 = .ok (.aload_n 0, 1) := by decide +kernel
theorem dX9_startHearing_37 : decode cX9_startHearing 37 = .ok (.getfield 33, 3) := by decide +kernel
theorem dX9_startHearing_40 : decode cX9_startHearing 40 = .ok (.aload_n 0, 1) := by decide +kernel
theorem dX9_startHearing_41 : decode cX9_startHearing 41 = .ok (.getfield 74, 3) := by decide +kernel
theorem dX9_startHearing_44 : decode cX9_startHearing 44 = .ok (.bipush 110, 2) := by decide +kernel
theorem dX9_startHearing_46 : decode cX9_startHearing 46 = .ok (.invokevirtual 289, 3) := by decide +kernel
theorem dX9_startHearing_49 : decode cX9_startHearing 49 = .ok (.iconst (-1), 1) := by decide +kernel
theorem dX9_startHearing_50 : decode cX9_startHearing 50 = .ok (.if_icmp .ne 11, 3) := by decide +kernel
theorem dX9_startHearing_53 : decode cX9_startHearing 53 = .ok (.aload_n 0, 1) := by decide +kernel
theorem dX9_startHearing_54 : decode cX9_startHearing 54 = .ok (.getfield 61, 3) := by decide +kernel
theorem dX9_startHearing_57 : decode cX9_startHearing 57 = .ok (.iload_n 2, 1) := by decide +kernel
theorem dX9_startHearing_58 : decode cX9_startHearing 58 = .ok (.invokevirtual 293, 3) := by decide +kernel
theorem dX9_startHearing_61 : decode cX9_startHearing 61 = .ok (.iinc 2 1, 3) := by decide +kernel
theorem dX9_startHearing_64 : decode cX9_startHearing 64 = .ok (.goto (-41), 3) := by decide +kernel
theorem dX9_startHearing_67 : decode cX9_startHearing 67 = .ok (.aload_n 0, 1) := by decide +kernel
theorem dX9_startHearing_68 : decode cX9_startHearing 68 = .ok (.invokevirtual 173, 3) := by decide +kernel
theorem dX9_startHearing_71 : decode cX9_startHearing 71 = .ok (.return_, 1) := by decide +kernel
theorem dX9_takeAllBack_0 : decode cX9_takeAllBack 0 = .ok (.aload_n 0, 1) := by decide +kernel
theorem dX9_takeAllBack_1 : decode cX9_takeAllBack 1 = .ok (.getfield 26, 3) := by decide +kernel
theorem dX9_takeAllBack_4 : decode cX9_takeAllBack 4 = .ok (.invokevirtual 295, 3) := by decide +kernel
theorem dX9_takeAllBack_7 : decode cX9_takeAllBack 7 = .ok (.aload_n 0, 1) := by decide +kernel
theorem dX9_takeAllBack_8 : decode cX9_takeAllBack 8 = .ok (.getfield 19, 3) := by decide +kernel
theorem dX9_takeAllBack_11 : decode cX9_takeAllBack 11 = .ok (.invokevirtual 296, 3) := by decide +kernel
theorem dX9_takeAllBack_14 : decode cX9_takeAllBack 14 = .ok (.aload_n 0, 1) := by decide +kernel
theorem dX9_takeAllBack_15 : decode cX9_takeAllBack 15 = .ok (.getfield 65, 3) := by decide +kernel
theorem dX9_takeAllBack_18 : decode cX9_takeAllBack 18 = .ok (.aload_n 0, 1) := by decide +kernel
theorem dX9_takeAllBack_19 : decode cX9_takeAllBack 19 = .ok (.getfield 61, 3) := by decide +kernel
theorem dX9_takeAllBack_22 : decode cX9_takeAllBack 22 = .ok (.invokevirtual 184, 3) := by decide +kernel
theorem dX9_takeAllBack_25 : decode cX9_takeAllBack 25 = .ok (.return_, 1) := by decide +kernel
theorem dX9_wouldSay_0 : decode cX9_wouldSay 0 = .ok (.aload_n 0, 1) := by decide +kernel
theorem dX9_wouldSay_1 : decode cX9_wouldSay 1 = .ok (.getfield 19, 3) := by decide +kernel
theorem dX9_wouldSay_4 : decode cX9_wouldSay 4 = .ok (.iload_n 1, 1) := by decide +kernel
theorem dX9_wouldSay_5 : decode cX9_wouldSay 5 = .ok (.iload_n 2, 1) := by decide +kernel
theorem dX9_wouldSay_6 : decode cX9_wouldSay 6 = .ok (.invokevirtual 237, 3) := by decide +kernel
theorem dX9_wouldSay_9 : decode cX9_wouldSay 9 = .ok (.ifCond .eq 17, 3) := by decide +kernel
theorem dX9_wouldSay_12 : decode cX9_wouldSay 12 = .ok (.aload_n 0, 1) := by decide +kernel
theorem dX9_wouldSay_13 : decode cX9_wouldSay 13 = .ok (.getfield 19, 3) := by decide +kernel
theorem dX9_wouldSay_16 : decode cX9_wouldSay 16 = .ok (.iload_n 1, 1) := by decide +kernel
theorem dX9_wouldSay_17 : decode cX9_wouldSay 17 = .ok (.iload_n 2, 1) := by decide +kernel
theorem dX9_wouldSay_18 : decode cX9_wouldSay 18 = .ok (.iload_n 3, 1) := by decide +kernel
theorem dX9_wouldSay_19 : decode cX9_wouldSay 19 = .ok (.invokevirtual 243, 3) := by decide +kernel
theorem dX9_wouldSay_22 : decode cX9_wouldSay 22 = .ok (.iconst 1, 1) := by decide +kernel
theorem dX9_wouldSay_23 : decode cX9_wouldSay 23 = .ok (.if_icmp .ge 5, 3) := by decide +kernel
theorem dX9_wouldSay_26 : decode cX9_wouldSay 26 = .ok (.iconst 0, 1) := by decide +kernel
theorem dX9_wouldSay_27 : decode cX9_wouldSay 27 = .ok (.ireturn, 1) := by decide +kernel
theorem dX9_wouldSay_28 : decode cX9_wouldSay 28 = .ok (.aload_n 0, 1) := by decide +kernel
theorem dX9_wouldSay_29 : decode cX9_wouldSay 29 = .ok (.getfield 33, 3) := by decide +kernel
theorem dX9_wouldSay_32 : decode cX9_wouldSay 32 = .ok (.invokevirtual 283, 3) := by decide +kernel
theorem dX9_wouldSay_35 : decode cX9_wouldSay 35 = .ok (.aload_n 0, 1) := by decide +kernel
theorem dX9_wouldSay_36 : decode cX9_wouldSay 36 = .ok (.getfield 33, 3) := by decide +kernel
theorem dX9_wouldSay_39 : decode cX9_wouldSay 39 = .ok (.bipush 112, 2) := by decide +kernel
theorem dX9_wouldSay_41 : decode cX9_wouldSay 41 = .ok (.iload_n 1, 1) := by decide +kernel
theorem dX9_wouldSay_42 : decode cX9_wouldSay 42 = .ok (.invokevirtual 299, 3) := by decide +kernel
theorem dX9_wouldSay_45 : decode cX9_wouldSay 45 = .ok (.aload_n 0, 1) := by decide +kernel
theorem dX9_wouldSay_46 : decode cX9_wouldSay 46 = .ok (.getfield 33, 3) := by decide +kernel
theorem dX9_wouldSay_49 : decode cX9_wouldSay 49 = .ok (.bipush 120, 2) := by decide +kernel
theorem dX9_wouldSay_51 : decode cX9_wouldSay 51 = .ok (.iload_n 2, 1) := by decide +kernel
theorem dX9_wouldSay_52 : decode cX9_wouldSay 52 = .ok (.invokevirtual 299, 3) := by decide +kernel
theorem dX9_wouldSay_55 : decode cX9_wouldSay 55 = .ok (.aload_n 0, 1) := by decide +kernel
theorem dX9_wouldSay_56 : decode cX9_wouldSay 56 = .ok (.getfield 33, 3) := by decide +kernel
theorem dX9_wouldSay_59 : decode cX9_wouldSay 59 = .ok (.bipush 118, 2) := by decide +kernel
theorem dX9_wouldSay_61 : decode cX9_wouldSay 61 = .ok (.iload_n 3, 1) := by decide +kernel
theorem dX9_wouldSay_62 : decode cX9_wouldSay 62 = .ok (.invokevirtual 299, 3) := by decide +kernel
theorem dX9_wouldSay_65 : decode cX9_wouldSay 65 = .ok (.aload_n 0, 1) := by decide +kernel
theorem dX9_wouldSay_66 : decode cX9_wouldSay 66 = .ok (.getfield 33, 3) := by decide +kernel
theorem dX9_wouldSay_69 : decode cX9_wouldSay 69 = .ok (.bipush 121, 2) := by decide +kernel
theorem dX9_wouldSay_71 : decode cX9_wouldSay 71 = .ok (.aload_n 0, 1) := by decide +kernel
theorem dX9_wouldSay_72 : decode cX9_wouldSay 72 = .ok (.getfield 19, 3) := by decide +kernel
theorem dX9_wouldSay_75 : decode cX9_wouldSay 75 = .ok (.iload_n 1, 1) := by decide +kernel
theorem dX9_wouldSay_76 : decode cX9_wouldSay 76 = .ok (.iload_n 2, 1) := by decide +kernel
theorem dX9_wouldSay_77 : decode cX9_wouldSay 77 = .ok (.iload_n 3, 1) := by decide +kernel
theorem dX9_wouldSay_78 : decode cX9_wouldSay 78 = .ok (.invokevirtual 243, 3) := by decide +kernel
theorem dX9_wouldSay_81 : decode cX9_wouldSay 81 = .ok (.invokevirtual 299, 3) := by decide +kernel
theorem dX9_wouldSay_84 : decode cX9_wouldSay 84 = .ok (.aload_n 0, 1) := by decide +kernel
theorem dX9_wouldSay_85 : decode cX9_wouldSay 85 = .ok (.getfield 33, 3) := by decide +kernel
theorem dX9_wouldSay_88 : decode cX9_wouldSay 88 = .ok (.bipush 122, 2) := by decide +kernel
theorem dX9_wouldSay_90 : decode cX9_wouldSay 90 = .ok (.aload_n 0, 1) := by decide +kernel
theorem dX9_wouldSay_91 : decode cX9_wouldSay 91 = .ok (.getfield 19, 3) := by decide +kernel
theorem dX9_wouldSay_94 : decode cX9_wouldSay 94 = .ok (.iload_n 1, 1) := by decide +kernel
theorem dX9_wouldSay_95 : decode cX9_wouldSay 95 = .ok (.invokevirtual 279, 3) := by decide +kernel
theorem dX9_wouldSay_98 : decode cX9_wouldSay 98 = .ok (.invokevirtual 299, 3) := by decide +kernel
theorem dX9_wouldSay_101 : decode cX9_wouldSay 101 = .ok (.aload_n 0, 1) := by decide +kernel
theorem dX9_wouldSay_102 : decode cX9_wouldSay 102 = .ok (.getfield 33, 3) := by decide +kernel
theorem dX9_wouldSay_105 : decode cX9_wouldSay 105 = .ok (.bipush 107, 2) := by decide +kernel
theorem dX9_wouldSay_107 : decode cX9_wouldSay 107 = .ok (.aload_n 0, 1) := by decide +kernel
theorem dX9_wouldSay_108 : decode cX9_wouldSay 108 = .ok (.getfield 19, 3) := by decide +kernel
theorem dX9_wouldSay_111 : decode cX9_wouldSay 111 = .ok (.iload_n 2, 1) := by decide +kernel
theorem dX9_wouldSay_112 : decode cX9_wouldSay 112 = .ok (.invokevirtual 302, 3) := by decide +kernel
theorem dX9_wouldSay_115 : decode cX9_wouldSay 115 = .ok (.invokevirtual 299, 3) := by decide +kernel
theorem dX9_wouldSay_118 : decode cX9_wouldSay 118 = .ok (.aload_n 0, 1) := by decide +kernel
theorem dX9_wouldSay_119 : decode cX9_wouldSay 119 = .ok (.getfield 33, 3) := by decide +kernel
theorem dX9_wouldSay_122 : decode cX9_wouldSay 122 = .ok (.bipush 119, 2) := by decide +kernel
theorem dX9_wouldSay_124 : decode cX9_wouldSay 124 = .ok (.aload_n 0, 1) := by decide +kernel
theorem dX9_wouldSay_125 : decode cX9_wouldSay 125 = .ok (.getfield 19, 3) := by decide +kernel
theorem dX9_wouldSay_128 : decode cX9_wouldSay 128 = .ok (.iload_n 1, 1) := by decide +kernel
theorem dX9_wouldSay_129 : decode cX9_wouldSay 129 = .ok (.invokevirtual 276, 3) := by decide +kernel
theorem dX9_wouldSay_132 : decode cX9_wouldSay 132 = .ok (.invokestatic 226, 3) := by decide +kernel
theorem dX9_wouldSay_135 : decode cX9_wouldSay 135 = .ok (.invokevirtual 299, 3) := by decide +kernel
theorem dX9_wouldSay_138 : decode cX9_wouldSay 138 = .ok (.aload_n 0, 1) := by decide +kernel
theorem dX9_wouldSay_139 : decode cX9_wouldSay 139 = .ok (.getfield 33, 3) := by decide +kernel
theorem dX9_wouldSay_142 : decode cX9_wouldSay 142 = .ok (.aload_n 0, 1) := by decide +kernel
theorem dX9_wouldSay_143 : decode cX9_wouldSay 143 = .ok (.getfield 74, 3) := by decide +kernel
theorem dX9_wouldSay_146 : decode cX9_wouldSay 146 = .ok (.bipush 114, 2) := by decide +kernel
theorem dX9_wouldSay_148 : decode cX9_wouldSay 148 = .ok (.invokevirtual 289, 3) := by decide +kernel
theorem dX9_wouldSay_151 : decode cX9_wouldSay 151 = .ok (.istore 4, 2) := by decide +kernel
theorem dX9_wouldSay_153 : decode cX9_wouldSay 153 = .ok (.aload_n 0, 1) := by decide +kernel
theorem dX9_wouldSay_154 : decode cX9_wouldSay 154 = .ok (.getfield 33, 3) := by decide +kernel
theorem dX9_wouldSay_157 : decode cX9_wouldSay 157 = .ok (.aload_n 0, 1) := by decide +kernel
theorem dX9_wouldSay_158 : decode cX9_wouldSay 158 = .ok (.getfield 74, 3) := by decide +kernel
theorem dX9_wouldSay_161 : decode cX9_wouldSay 161 = .ok (.iload 4, 2) := by decide +kernel
theorem dX9_wouldSay_163 : decode cX9_wouldSay 163 = .ok (.bipush 99, 2) := by decide +kernel
theorem dX9_wouldSay_165 : decode cX9_wouldSay 165 = .ok (.invokevirtual 305, 3) := by decide +kernel
theorem dX9_wouldSay_168 : decode cX9_wouldSay 168 = .ok (.ifCond .le 7, 3) := by decide +kernel
theorem dX9_wouldSay_171 : decode cX9_wouldSay 171 = .ok (.iconst 1, 1) := by decide +kernel
theorem dX9_wouldSay_172 : decode cX9_wouldSay 172 = .ok (.goto 4, 3) := by decide +kernel
theorem dX9_wouldSay_175 : decode cX9_wouldSay 175 = .ok (.iconst 0, 1) := by decide +kernel
theorem dX9_wouldSay_176 : decode cX9_wouldSay 176 = .ok (.ireturn, 1) := by decide +kernel
theorem dX9_hear_0 : decode cX9_hear 0 = .ok (.aload_n 0, 1) := by decide +kernel
theorem dX9_hear_1 : decode cX9_hear 1 = .ok (.iload_n 2, 1) := by decide +kernel
theorem dX9_hear_2 : decode cX9_hear 2 = .ok (.invokevirtual 240, 3) := by decide +kernel
theorem dX9_hear_5 : decode cX9_hear 5 = .ok (.istore_n 3, 1) := by decide +kernel
theorem dX9_hear_6 : decode cX9_hear 6 = .ok (.aload_n 0, 1) := by decide +kernel
theorem dX9_hear_7 : decode cX9_hear 7 = .ok (.iload_n 1, 1) := by decide +kernel
theorem dX9_hear_8 : decode cX9_hear 8 = .ok (.iload_n 2, 1) := by decide +kernel
theorem dX9_hear_9 : decode cX9_hear 9 = .ok (.iload_n 3, 1) := by decide +kernel
theorem dX9_hear_10 : decode cX9_hear 10 = .ok (.invokevirtual 144, 3) := by decide +kernel
theorem dX9_hear_13 : decode cX9_hear 13 = .ok (.istore 4, 2) := by decide +kernel
theorem dX9_hear_15 : decode cX9_hear 15 = .ok (.iload 4, 2) := by decide +kernel
theorem dX9_hear_17 : decode cX9_hear 17 = .ok (.ifCond .eq 7, 3) := by decide +kernel
theorem dX9_hear_20 : decode cX9_hear 20 = .ok (.iload_n 3, 1) := by decide +kernel
theorem dX9_hear_21 : decode cX9_hear 21 = .ok (.goto 4, 3) := by decide +kernel
theorem dX9_hear_24 : decode cX9_hear 24 = .ok (.iconst 2, 1) := by decide +kernel
theorem dX9_hear_25 : decode cX9_hear 25 = .ok (.istore 5, 2) := by decide +kernel
theorem dX9_hear_27 : decode cX9_hear 27 = .ok (.iload 4, 2) := by decide +kernel
theorem dX9_hear_29 : decode cX9_hear 29 = .ok (.ifCond .eq 16, 3) := by decide +kernel
theorem dX9_hear_32 : decode cX9_hear 32 = .ok (.aload_n 0, 1) := by decide +kernel
theorem dX9_hear_33 : decode cX9_hear 33 = .ok (.getfield 19, 3) := by decide +kernel
theorem dX9_hear_36 : decode cX9_hear 36 = .ok (.iload_n 1, 1) := by decide +kernel
theorem dX9_hear_37 : decode cX9_hear 37 = .ok (.iload_n 2, 1) := by decide +kernel
theorem dX9_hear_38 : decode cX9_hear 38 = .ok (.iload_n 3, 1) := by decide +kernel
theorem dX9_hear_39 : decode cX9_hear 39 = .ok (.invokevirtual 243, 3) := by decide +kernel
theorem dX9_hear_42 : decode cX9_hear 42 = .ok (.goto 11, 3) := by decide +kernel
theorem dX9_hear_45 : decode cX9_hear 45 = .ok (.aload_n 0, 1) := by decide +kernel
theorem dX9_hear_46 : decode cX9_hear 46 = .ok (.getfield 19, 3) := by decide +kernel
theorem dX9_hear_49 : decode cX9_hear 49 = .ok (.iload_n 1, 1) := by decide +kernel
theorem dX9_hear_50 : decode cX9_hear 50 = .ok (.invokevirtual 279, 3) := by decide +kernel
theorem dX9_hear_53 : decode cX9_hear 53 = .ok (.istore 6, 2) := by decide +kernel
theorem dX9_hear_55 : decode cX9_hear 55 = .ok (.aload_n 0, 1) := by decide +kernel
theorem dX9_hear_56 : decode cX9_hear 56 = .ok (.getfield 26, 3) := by decide +kernel
theorem dX9_hear_59 : decode cX9_hear 59 = .ok (.iload_n 1, 1) := by decide +kernel
theorem dX9_hear_60 : decode cX9_hear 60 = .ok (.iload_n 2, 1) := by decide +kernel
theorem dX9_hear_61 : decode cX9_hear 61 = .ok (.iload 5, 2) := by decide +kernel
theorem dX9_hear_63 : decode cX9_hear 63 = .ok (.iload 6, 2) := by decide +kernel
theorem dX9_hear_65 : decode cX9_hear 65 = .ok (.aload_n 0, 1) := by decide +kernel
theorem dX9_hear_66 : decode cX9_hear 66 = .ok (.getfield 65, 3) := by decide +kernel
theorem dX9_hear_69 : decode cX9_hear 69 = .ok (.invokevirtual 309, 3) := by decide +kernel
theorem dX9_hear_72 : decode cX9_hear 72 = .ok (.aload_n 0, 1) := by decide +kernel
theorem dX9_hear_73 : decode cX9_hear 73 = .ok (.getfield 19, 3) := by decide +kernel
theorem dX9_hear_76 : decode cX9_hear 76 = .ok (.iload_n 1, 1) := by decide +kernel
theorem dX9_hear_77 : decode cX9_hear 77 = .ok (.iload 6, 2) := by decide +kernel
theorem dX9_hear_79 : decode cX9_hear 79 = .ok (.invokevirtual 166, 3) := by decide +kernel
theorem dX9_hear_82 : decode cX9_hear 82 = .ok (.aload_n 0, 1) := by decide +kernel
theorem dX9_hear_83 : decode cX9_hear 83 = .ok (.aload_n 0, 1) := by decide +kernel
theorem dX9_hear_84 : decode cX9_hear 84 = .ok (.getfield 65, 3) := by decide +kernel
theorem dX9_hear_87 : decode cX9_hear 87 = .ok (.iload_n 1, 1) := by decide +kernel
theorem dX9_hear_88 : decode cX9_hear 88 = .ok (.iload_n 2, 1) := by decide +kernel
theorem dX9_hear_89 : decode cX9_hear 89 = .ok (.iload 5, 2) := by decide +kernel
theorem dX9_hear_91 : decode cX9_hear 91 = .ok (.invokevirtual 186, 3) := by decide +kernel
theorem dX9_hear_94 : decode cX9_hear 94 = .ok (.iload 5, 2) := by decide +kernel
theorem dX9_hear_96 : decode cX9_hear 96 = .ok (.ireturn, 1) := by decide +kernel
theorem dX9_narrow_0 : decode cX9_narrow 0 = .ok (.iload 4, 2) := by decide +kernel
theorem dX9_narrow_2 : decode cX9_narrow 2 = .ok (.iconst 2, 1) := by decide +kernel
theorem dX9_narrow_3 : decode cX9_narrow 3 = .ok (.if_icmp .eq 11, 3) := by decide +kernel
theorem dX9_narrow_6 : decode cX9_narrow 6 = .ok (.aload_n 1, 1) := by decide +kernel
theorem dX9_narrow_7 : decode cX9_narrow 7 = .ok (.iload_n 3, 1) := by decide +kernel
theorem dX9_narrow_8 : decode cX9_narrow 8 = .ok (.iload 4, 2) := by decide +kernel
theorem dX9_narrow_10 : decode cX9_narrow 10 = .ok (.invokevirtual 313, 3) := by decide +kernel
theorem dX9_narrow_13 : decode cX9_narrow 13 = .ok (.return_, 1) := by decide +kernel
theorem dX9_narrow_14 : decode cX9_narrow 14 = .ok (.iconst 0, 1) := by decide +kernel
theorem dX9_narrow_15 : decode cX9_narrow 15 = .ok (.istore 5, 2) := by decide +kernel
theorem dX9_narrow_17 : decode cX9_narrow 17 = .ok (.iload 5, 2) := by decide +kernel
theorem dX9_narrow_19 : decode cX9_narrow 19 = .ok (.iconst 2, 1) := by decide +kernel
theorem dX9_narrow_20 : decode cX9_narrow 20 = .ok (.if_icmp .ge 29, 3) := by decide +kernel
theorem dX9_narrow_23 : decode cX9_narrow 23 = .ok (.aload_n 0, 1) := by decide +kernel
theorem dX9_narrow_24 : decode cX9_narrow 24 = .ok (.iload_n 2, 1) := by decide +kernel
theorem dX9_narrow_25 : decode cX9_narrow 25 = .ok (.iload_n 3, 1) := by decide +kernel
theorem dX9_narrow_26 : decode cX9_narrow 26 = .ok (.iload 5, 2) := by decide +kernel
theorem dX9_narrow_28 : decode cX9_narrow 28 = .ok (.invokevirtual 144, 3) := by decide +kernel
theorem dX9_narrow_31 : decode cX9_narrow 31 = .ok (.ifCond .eq 12, 3) := by decide +kernel
theorem dX9_narrow_34 : decode cX9_narrow 34 = .ok (.aload_n 1, 1) := by decide +kernel
theorem dX9_narrow_35 : decode cX9_narrow 35 = .ok (.iload_n 3, 1) := by decide +kernel
theorem dX9_narrow_36 : decode cX9_narrow 36 = .ok (.iconst 1, 1) := by decide +kernel
theorem dX9_narrow_37 : decode cX9_narrow 37 = .ok (.iload 5, 2) := by decide +kernel
theorem dX9_narrow_39 : decode cX9_narrow 39 = .ok (.isub, 1) := by decide +kernel
theorem dX9_narrow_40 : decode cX9_narrow 40 = .ok (.invokevirtual 313, 3) := by decide +kernel
theorem dX9_narrow_43 : decode cX9_narrow 43 = .ok (.iinc 5 1, 3) := by decide +kernel
theorem dX9_narrow_46 : decode cX9_narrow 46 = .ok (.goto (-29), 3) := by decide +kernel
theorem dX9_narrow_49 : decode cX9_narrow 49 = .ok (.return_, 1) := by decide +kernel
theorem dX9_hearHalf_0 : decode cX9_hearHalf 0 = .ok (.aload_n 0, 1) := by decide +kernel
theorem dX9_hearHalf_1 : decode cX9_hearHalf 1 = .ok (.iload_n 1, 1) := by decide +kernel
theorem dX9_hearHalf_2 : decode cX9_hearHalf 2 = .ok (.iload_n 2, 1) := by decide +kernel
theorem dX9_hearHalf_3 : decode cX9_hearHalf 3 = .ok (.iconst 1, 1) := by decide +kernel
theorem dX9_hearHalf_4 : decode cX9_hearHalf 4 = .ok (.invokevirtual 144, 3) := by decide +kernel
theorem dX9_hearHalf_7 : decode cX9_hearHalf 7 = .ok (.ifCond .eq 17, 3) := by decide +kernel
theorem dX9_hearHalf_10 : decode cX9_hearHalf 10 = .ok (.aload_n 0, 1) := by decide +kernel
theorem dX9_hearHalf_11 : decode cX9_hearHalf 11 = .ok (.iload_n 1, 1) := by decide +kernel
theorem dX9_hearHalf_12 : decode cX9_hearHalf 12 = .ok (.iload_n 3, 1) := by decide +kernel
theorem dX9_hearHalf_13 : decode cX9_hearHalf 13 = .ok (.iconst 1, 1) := by decide +kernel
theorem dX9_hearHalf_14 : decode cX9_hearHalf 14 = .ok (.invokevirtual 144, 3) := by decide +kernel
theorem dX9_hearHalf_17 : decode cX9_hearHalf 17 = .ok (.ifCond .eq 7, 3) := by decide +kernel
theorem dX9_hearHalf_20 : decode cX9_hearHalf 20 = .ok (.iconst 1, 1) := by decide +kernel
theorem dX9_hearHalf_21 : decode cX9_hearHalf 21 = .ok (.goto 4, 3) := by decide +kernel
theorem dX9_hearHalf_24 : decode cX9_hearHalf 24 = .ok (.iconst 0, 1) := by decide +kernel
theorem dX9_hearHalf_25 : decode cX9_hearHalf 25 = .ok (.istore 4, 2) := by decide +kernel
theorem dX9_hearHalf_27 : decode cX9_hearHalf 27 = .ok (.iload 4, 2) := by decide +kernel
theorem dX9_hearHalf_29 : decode cX9_hearHalf 29 = .ok (.ifCond .eq 21, 3) := by decide +kernel
theorem dX9_hearHalf_32 : decode cX9_hearHalf 32 = .ok (.aload_n 0, 1) := by decide +kernel
theorem dX9_hearHalf_33 : decode cX9_hearHalf 33 = .ok (.iload_n 2, 1) := by decide +kernel
theorem dX9_hearHalf_34 : decode cX9_hearHalf 34 = .ok (.invokevirtual 240, 3) := by decide +kernel
theorem dX9_hearHalf_37 : decode cX9_hearHalf 37 = .ok (.aload_n 0, 1) := by decide +kernel
theorem dX9_hearHalf_38 : decode cX9_hearHalf 38 = .ok (.iload_n 3, 1) := by decide +kernel
theorem dX9_hearHalf_39 : decode cX9_hearHalf 39 = .ok (.invokevirtual 240, 3) := by decide +kernel
theorem dX9_hearHalf_42 : decode cX9_hearHalf 42 = .ok (.iadd, 1) := by decide +kernel
theorem dX9_hearHalf_43 : decode cX9_hearHalf 43 = .ok (.ifCond .le 7, 3) := by decide +kernel
theorem dX9_hearHalf_46 : decode cX9_hearHalf 46 = .ok (.iconst 1, 1) := by decide +kernel
theorem dX9_hearHalf_47 : decode cX9_hearHalf 47 = .ok (.goto 4, 3) := by decide +kernel
theorem dX9_hearHalf_50 : decode cX9_hearHalf 50 = .ok (.iconst 0, 1) := by decide +kernel
theorem dX9_hearHalf_51 : decode cX9_hearHalf 51 = .ok (.istore 5, 2) := by decide +kernel
theorem dX9_hearHalf_53 : decode cX9_hearHalf 53 = .ok (.aload_n 0, 1) := by decide +kernel
theorem dX9_hearHalf_54 : decode cX9_hearHalf 54 = .ok (.getfield 19, 3) := by decide +kernel
theorem dX9_hearHalf_57 : decode cX9_hearHalf 57 = .ok (.iload_n 1, 1) := by decide +kernel
theorem dX9_hearHalf_58 : decode cX9_hearHalf 58 = .ok (.iload_n 2, 1) := by decide +kernel
theorem dX9_hearHalf_59 : decode cX9_hearHalf 59 = .ok (.iconst 1, 1) := by decide +kernel
theorem dX9_hearHalf_60 : decode cX9_hearHalf 60 = .ok (.invokevirtual 243, 3) := by decide +kernel
theorem dX9_hearHalf_63 : decode cX9_hearHalf 63 = .ok (.aload_n 0, 1) := by decide +kernel
theorem dX9_hearHalf_64 : decode cX9_hearHalf 64 = .ok (.getfield 19, 3) := by decide +kernel
theorem dX9_hearHalf_67 : decode cX9_hearHalf 67 = .ok (.iload_n 1, 1) := by decide +kernel
theorem dX9_hearHalf_68 : decode cX9_hearHalf 68 = .ok (.iload_n 3, 1) := by decide +kernel
theorem dX9_hearHalf_69 : decode cX9_hearHalf 69 = .ok (.iconst 1, 1) := by decide +kernel
theorem dX9_hearHalf_70 : decode cX9_hearHalf 70 = .ok (.invokevirtual 243, 3) := by decide +kernel
theorem dX9_hearHalf_73 : decode cX9_hearHalf 73 = .ok (.invokestatic 316, 3) := by decide +kernel
theorem dX9_hearHalf_76 : decode cX9_hearHalf 76 = .ok (.istore 6, 2) := by decide +kernel
theorem dX9_hearHalf_78 : decode cX9_hearHalf 78 = .ok (.iload 5, 2) := by decide +kernel
theorem dX9_hearHalf_80 : decode cX9_hearHalf 80 = .ok (.ifCond .eq 8, 3) := by decide +kernel
theorem dX9_hearHalf_83 : decode cX9_hearHalf 83 = .ok (.iload 6, 2) := by decide +kernel
theorem dX9_hearHalf_85 : decode cX9_hearHalf 85 = .ok (.goto 11, 3) := by decide +kernel
theorem dX9_hearHalf_88 : decode cX9_hearHalf 88 = .ok (.aload_n 0, 1) := by decide +kernel
theorem dX9_hearHalf_89 : decode cX9_hearHalf 89 = .ok (.getfield 19, 3) := by decide +kernel
theorem dX9_hearHalf_92 : decode cX9_hearHalf 92 = .ok (.iload_n 1, 1) := by decide +kernel
theorem dX9_hearHalf_93 : decode cX9_hearHalf 93 = .ok (.invokevirtual 279, 3) := by decide +kernel
theorem dX9_hearHalf_96 : decode cX9_hearHalf 96 = .ok (.istore 7, 2) := by decide +kernel
theorem dX9_hearHalf_98 : decode cX9_hearHalf 98 = .ok (.aload_n 0, 1) := by decide +kernel
theorem dX9_hearHalf_99 : decode cX9_hearHalf 99 = .ok (.getfield 26, 3) := by decide +kernel
theorem dX9_hearHalf_102 : decode cX9_hearHalf 102 = .ok (.iload_n 1, 1) := by decide +kernel
theorem dX9_hearHalf_103 : decode cX9_hearHalf 103 = .ok (.iload_n 2, 1) := by decide +kernel
theorem dX9_hearHalf_104 : decode cX9_hearHalf 104 = .ok (.iload 5, 2) := by decide +kernel
theorem dX9_hearHalf_106 : decode cX9_hearHalf 106 = .ok (.ifCond .eq 7, 3) := by decide +kernel
theorem dX9_hearHalf_109 : decode cX9_hearHalf 109 = .ok (.iconst 3, 1) := by decide +kernel
theorem dX9_hearHalf_110 : decode cX9_hearHalf 110 = .ok (.goto 4, 3) := by decide +kernel
theorem dX9_hearHalf_113 : decode cX9_hearHalf 113 = .ok (.iconst 4, 1) := by decide +kernel
theorem dX9_hearHalf_114 : decode cX9_hearHalf 114 = .ok (.iload 7, 2) := by decide +kernel
theorem dX9_hearHalf_116 : decode cX9_hearHalf 116 = .ok (.aload_n 0, 1) := by decide +kernel
theorem dX9_hearHalf_117 : decode cX9_hearHalf 117 = .ok (.getfield 65, 3) := by decide +kernel
theorem dX9_hearHalf_120 : decode cX9_hearHalf 120 = .ok (.invokevirtual 309, 3) := by decide +kernel
theorem dX9_hearHalf_123 : decode cX9_hearHalf 123 = .ok (.aload_n 0, 1) := by decide +kernel
theorem dX9_hearHalf_124 : decode cX9_hearHalf 124 = .ok (.getfield 19, 3) := by decide +kernel
theorem dX9_hearHalf_127 : decode cX9_hearHalf 127 = .ok (.iload_n 1, 1) := by decide +kernel
theorem dX9_hearHalf_128 : decode cX9_hearHalf 128 = .ok (.iload 7, 2) := by decide +kernel
theorem dX9_hearHalf_130 : decode cX9_hearHalf 130 = .ok (.invokevirtual 166, 3) := by decide +kernel
theorem dX9_hearHalf_133 : decode cX9_hearHalf 133 = .ok (.iload 5, 2) := by decide +kernel
theorem dX9_hearHalf_135 : decode cX9_hearHalf 135 = .ok (.ifCond .eq 15, 3) := by decide +kernel
theorem dX9_hearHalf_138 : decode cX9_hearHalf 138 = .ok (.aload_n 0, 1) := by decide +kernel
theorem dX9_hearHalf_139 : decode cX9_hearHalf 139 = .ok (.getfield 65, 3) := by decide +kernel
theorem dX9_hearHalf_142 : decode cX9_hearHalf 142 = .ok (.iload_n 2, 1) := by decide +kernel
theorem dX9_hearHalf_143 : decode cX9_hearHalf 143 = .ok (.iload_n 3, 1) := by decide +kernel
theorem dX9_hearHalf_144 : decode cX9_hearHalf 144 = .ok (.invokevirtual 321, 3) := by decide +kernel
theorem dX9_hearHalf_147 : decode cX9_hearHalf 147 = .ok (.goto 26, 3) := by decide +kernel
theorem dX9_hearHalf_150 : decode cX9_hearHalf 150 = .ok (.iload 4, 2) := by decide +kernel
theorem dX9_hearHalf_152 : decode cX9_hearHalf 152 = .ok (.ifCond .eq 21, 3) := by decide +kernel
theorem dX9_hearHalf_155 : decode cX9_hearHalf 155 = .ok (.aload_n 0, 1) := by decide +kernel
theorem dX9_hearHalf_156 : decode cX9_hearHalf 156 = .ok (.getfield 65, 3) := by decide +kernel
theorem dX9_hearHalf_159 : decode cX9_hearHalf 159 = .ok (.iload_n 2, 1) := by decide +kernel
theorem dX9_hearHalf_160 : decode cX9_hearHalf 160 = .ok (.iconst 0, 1) := by decide +kernel
theorem dX9_hearHalf_161 : decode cX9_hearHalf 161 = .ok (.invokevirtual 313, 3) := by decide +kernel
theorem dX9_hearHalf_164 : decode cX9_hearHalf 164 = .ok (.aload_n 0, 1) := by decide +kernel
theorem dX9_hearHalf_165 : decode cX9_hearHalf 165 = .ok (.getfield 65, 3) := by decide +kernel
theorem dX9_hearHalf_168 : decode cX9_hearHalf 168 = .ok (.iload_n 3, 1) := by decide +kernel
theorem dX9_hearHalf_169 : decode cX9_hearHalf 169 = .ok (.iconst 0, 1) := by decide +kernel
theorem dX9_hearHalf_170 : decode cX9_hearHalf 170 = .ok (.invokevirtual 313, 3) := by decide +kernel
theorem dX9_hearHalf_173 : decode cX9_hearHalf 173 = .ok (.iload 5, 2) := by decide +kernel
theorem dX9_hearHalf_175 : decode cX9_hearHalf 175 = .ok (.ifCond .eq 7, 3) := by decide +kernel
theorem dX9_hearHalf_178 : decode cX9_hearHalf 178 = .ok (.iconst 1, 1) := by decide +kernel
theorem dX9_hearHalf_179 : decode cX9_hearHalf 179 = .ok (.goto 4, 3) := by decide +kernel
theorem dX9_hearHalf_182 : decode cX9_hearHalf 182 = .ok (.iconst 2, 1) := by decide +kernel
theorem dX9_hearHalf_183 : decode cX9_hearHalf 183 = .ok (.ireturn, 1) := by decide +kernel
theorem dX9_provedTrue_0 : decode cX9_provedTrue 0 = .ok (.iconst 0, 1) := by decide +kernel
theorem dX9_provedTrue_1 : decode cX9_provedTrue 1 = .ok (.istore_n 2, 1) := by decide +kernel
theorem dX9_provedTrue_2 : decode cX9_provedTrue 2 = .ok (.iconst 0, 1) := by decide +kernel
theorem dX9_provedTrue_3 : decode cX9_provedTrue 3 = .ok (.istore_n 3, 1) := by decide +kernel
theorem dX9_provedTrue_4 : decode cX9_provedTrue 4 = .ok (.iload_n 3, 1) := by decide +kernel
theorem dX9_provedTrue_5 : decode cX9_provedTrue 5 = .ok (.aload_n 0, 1) := by decide +kernel
theorem dX9_provedTrue_6 : decode cX9_provedTrue 6 = .ok (.getfield 78, 3) := by decide +kernel
theorem dX9_provedTrue_9 : decode cX9_provedTrue 9 = .ok (.if_icmp .ge 33, 3) := by decide +kernel
theorem dX9_provedTrue_12 : decode cX9_provedTrue 12 = .ok (.aload_n 1, 1) := by decide +kernel
theorem dX9_provedTrue_13 : decode cX9_provedTrue 13 = .ok (.iload_n 3, 1) := by decide +kernel
theorem dX9_provedTrue_14 : decode cX9_provedTrue 14 = .ok (.iconst 1, 1) := by decide +kernel
theorem dX9_provedTrue_15 : decode cX9_provedTrue 15 = .ok (.invokevirtual 180, 3) := by decide +kernel
theorem dX9_provedTrue_18 : decode cX9_provedTrue 18 = .ok (.ifCond .eq 18, 3) := by decide +kernel
theorem dX9_provedTrue_21 : decode cX9_provedTrue 21 = .ok (.aload_n 1, 1) := by decide +kernel
theorem dX9_provedTrue_22 : decode cX9_provedTrue 22 = .ok (.iload_n 3, 1) := by decide +kernel
theorem dX9_provedTrue_23 : decode cX9_provedTrue 23 = .ok (.iconst 0, 1) := by decide +kernel
theorem dX9_provedTrue_24 : decode cX9_provedTrue 24 = .ok (.invokevirtual 180, 3) := by decide +kernel
theorem dX9_provedTrue_27 : decode cX9_provedTrue 27 = .ok (.ifCond .ne 9, 3) := by decide +kernel
theorem dX9_provedTrue_30 : decode cX9_provedTrue 30 = .ok (.iload_n 2, 1) := by decide +kernel
theorem dX9_provedTrue_31 : decode cX9_provedTrue 31 = .ok (.iconst 1, 1) := by decide +kernel
theorem dX9_provedTrue_32 : decode cX9_provedTrue 32 = .ok (.iload_n 3, 1) := by decide +kernel
theorem dX9_provedTrue_33 : decode cX9_provedTrue 33 = .ok (.ishl, 1) := by decide +kernel
theorem dX9_provedTrue_34 : decode cX9_provedTrue 34 = .ok (.ior, 1) := by decide +kernel
theorem dX9_provedTrue_35 : decode cX9_provedTrue 35 = .ok (.istore_n 2, 1) := by decide +kernel
theorem dX9_provedTrue_36 : decode cX9_provedTrue 36 = .ok (.iinc 3 1, 3) := by decide +kernel
theorem dX9_provedTrue_39 : decode cX9_provedTrue 39 = .ok (.goto (-35), 3) := by decide +kernel
theorem dX9_provedTrue_42 : decode cX9_provedTrue 42 = .ok (.iload_n 2, 1) := by decide +kernel
theorem dX9_provedTrue_43 : decode cX9_provedTrue 43 = .ok (.ireturn, 1) := by decide +kernel
theorem dX9_provedFacts_0 : decode cX9_provedFacts 0 = .ok (.iconst 0, 1) := by decide +kernel
theorem dX9_provedFacts_1 : decode cX9_provedFacts 1 = .ok (.istore_n 2, 1) := by decide +kernel
theorem dX9_provedFacts_2 : decode cX9_provedFacts 2 = .ok (.iconst 0, 1) := by decide +kernel
theorem dX9_provedFacts_3 : decode cX9_provedFacts 3 = .ok (.istore_n 3, 1) := by decide +kernel
theorem dX9_provedFacts_4 : decode cX9_provedFacts 4 = .ok (.iload_n 3, 1) := by decide +kernel
theorem dX9_provedFacts_5 : decode cX9_provedFacts 5 = .ok (.aload_n 0, 1) := by decide +kernel
theorem dX9_provedFacts_6 : decode cX9_provedFacts 6 = .ok (.getfield 78, 3) := by decide +kernel
theorem dX9_provedFacts_9 : decode cX9_provedFacts 9 = .ok (.if_icmp .ge 30, 3) := by decide +kernel
theorem dX9_provedFacts_12 : decode cX9_provedFacts 12 = .ok (.aload_n 1, 1) := by decide +kernel
theorem dX9_provedFacts_13 : decode cX9_provedFacts 13 = .ok (.iload_n 3, 1) := by decide +kernel
theorem dX9_provedFacts_14 : decode cX9_provedFacts 14 = .ok (.iconst 1, 1) := by decide +kernel
theorem dX9_provedFacts_15 : decode cX9_provedFacts 15 = .ok (.invokevirtual 180, 3) := by decide +kernel
theorem dX9_provedFacts_18 : decode cX9_provedFacts 18 = .ok (.aload_n 1, 1) := by decide +kernel
theorem dX9_provedFacts_19 : decode cX9_provedFacts 19 = .ok (.iload_n 3, 1) := by decide +kernel
theorem dX9_provedFacts_20 : decode cX9_provedFacts 20 = .ok (.iconst 0, 1) := by decide +kernel
theorem dX9_provedFacts_21 : decode cX9_provedFacts 21 = .ok (.invokevirtual 180, 3) := by decide +kernel
theorem dX9_provedFacts_24 : decode cX9_provedFacts 24 = .ok (.if_icmp .eq 9, 3) := by decide +kernel
theorem dX9_provedFacts_27 : decode cX9_provedFacts 27 = .ok (.iload_n 2, 1) := by decide +kernel
theorem dX9_provedFacts_28 : decode cX9_provedFacts 28 = .ok (.iconst 1, 1) := by decide +kernel
theorem dX9_provedFacts_29 : decode cX9_provedFacts 29 = .ok (.iload_n 3, 1) := by decide +kernel
theorem dX9_provedFacts_30 : decode cX9_provedFacts 30 = .ok (.ishl, 1) := by decide +kernel
theorem dX9_provedFacts_31 : decode cX9_provedFacts 31 = .ok (.ior, 1) := by decide +kernel
theorem dX9_provedFacts_32 : decode cX9_provedFacts 32 = .ok (.istore_n 2, 1) := by decide +kernel
theorem dX9_provedFacts_33 : decode cX9_provedFacts 33 = .ok (.iinc 3 1, 3) := by decide +kernel
theorem dX9_provedFacts_36 : decode cX9_provedFacts 36 = .ok (.goto (-32), 3) := by decide +kernel
theorem dX9_provedFacts_39 : decode cX9_provedFacts 39 = .ok (.iload_n 2, 1) := by decide +kernel
theorem dX9_provedFacts_40 : decode cX9_provedFacts 40 = .ok (.ireturn, 1) := by decide +kernel
theorem dX9_sentenceBy_0 : decode cX9_sentenceBy 0 = .ok (.aload_n 0, 1) := by decide +kernel
theorem dX9_sentenceBy_1 : decode cX9_sentenceBy 1 = .ok (.getfield 33, 3) := by decide +kernel
theorem dX9_sentenceBy_4 : decode cX9_sentenceBy 4 = .ok (.invokevirtual 283, 3) := by decide +kernel
theorem dX9_sentenceBy_7 : decode cX9_sentenceBy 7 = .ok (.aload_n 0, 1) := by decide +kernel
theorem dX9_sentenceBy_8 : decode cX9_sentenceBy 8 = .ok (.getfield 33, 3) := by decide +kernel
theorem dX9_sentenceBy_11 : decode cX9_sentenceBy 11 = .ok (.aload_n 0, 1) := by decide +kernel
theorem dX9_sentenceBy_12 : decode cX9_sentenceBy 12 = .ok (.aload_n 1, 1) := by decide +kernel
theorem dX9_sentenceBy_13 : decode cX9_sentenceBy 13 = .ok (.invokevirtual 324, 3) := by decide +kernel
theorem dX9_sentenceBy_16 : decode cX9_sentenceBy 16 = .ok (.invokevirtual 286, 3) := by decide +kernel
theorem dX9_sentenceBy_19 : decode cX9_sentenceBy 19 = .ok (.aload_n 0, 1) := by decide +kernel
theorem dX9_sentenceBy_20 : decode cX9_sentenceBy 20 = .ok (.getfield 33, 3) := by decide +kernel
theorem dX9_sentenceBy_23 : decode cX9_sentenceBy 23 = .ok (.bipush 112, 2) := by decide +kernel
theorem dX9_sentenceBy_25 : decode cX9_sentenceBy 25 = .ok (.iload_n 2, 1) := by decide +kernel
theorem dX9_sentenceBy_26 : decode cX9_sentenceBy 26 = .ok (.invokevirtual 299, 3) := by decide +kernel
theorem dX9_sentenceBy_29 : decode cX9_sentenceBy 29 = .ok (.aload_n 0, 1) := by decide +kernel
theorem dX9_sentenceBy_30 : decode cX9_sentenceBy 30 = .ok (.getfield 33, 3) := by decide +kernel
theorem dX9_sentenceBy_33 : decode cX9_sentenceBy 33 = .ok (.bipush 109, 2) := by decide +kernel
theorem dX9_sentenceBy_35 : decode cX9_sentenceBy 35 = .ok (.aload_n 0, 1) := by decide +kernel
theorem dX9_sentenceBy_36 : decode cX9_sentenceBy 36 = .ok (.aload_n 1, 1) := by decide +kernel
theorem dX9_sentenceBy_37 : decode cX9_sentenceBy 37 = .ok (.invokevirtual 269, 3) := by decide +kernel
theorem dX9_sentenceBy_40 : decode cX9_sentenceBy 40 = .ok (.invokestatic 226, 3) := by decide +kernel
theorem dX9_sentenceBy_43 : decode cX9_sentenceBy 43 = .ok (.invokevirtual 299, 3) := by decide +kernel
theorem dX9_sentenceBy_46 : decode cX9_sentenceBy 46 = .ok (.aload_n 0, 1) := by decide +kernel
theorem dX9_sentenceBy_47 : decode cX9_sentenceBy 47 = .ok (.getfield 33, 3) := by decide +kernel
theorem dX9_sentenceBy_50 : decode cX9_sentenceBy 50 = .ok (.bipush 116, 2) := by decide +kernel
theorem dX9_sentenceBy_52 : decode cX9_sentenceBy 52 = .ok (.iload_n 3, 1) := by decide +kernel
theorem dX9_sentenceBy_53 : decode cX9_sentenceBy 53 = .ok (.invokevirtual 299, 3) := by decide +kernel
theorem dX9_sentenceBy_56 : decode cX9_sentenceBy 56 = .ok (.aload_n 0, 1) := by decide +kernel
theorem dX9_sentenceBy_57 : decode cX9_sentenceBy 57 = .ok (.getfield 33, 3) := by decide +kernel
theorem dX9_sentenceBy_60 : decode cX9_sentenceBy 60 = .ok (.aload_n 0, 1) := by decide +kernel
theorem dX9_sentenceBy_61 : decode cX9_sentenceBy 61 = .ok (.getfield 74, 3) := by decide +kernel
theorem dX9_sentenceBy_64 : decode cX9_sentenceBy 64 = .ok (.bipush 115, 2) := by decide +kernel
theorem dX9_sentenceBy_66 : decode cX9_sentenceBy 66 = .ok (.invokevirtual 289, 3) := by decide +kernel
theorem dX9_sentenceBy_69 : decode cX9_sentenceBy 69 = .ok (.istore 4, 2) := by decide +kernel
theorem dX9_sentenceBy_71 : decode cX9_sentenceBy 71 = .ok (.aload_n 0, 1) := by decide +kernel
theorem dX9_sentenceBy_72 : decode cX9_sentenceBy 72 = .ok (.getfield 33, 3) := by decide +kernel
theorem dX9_sentenceBy_75 : decode cX9_sentenceBy 75 = .ok (.aload_n 0, 1) := by decide +kernel
theorem dX9_sentenceBy_76 : decode cX9_sentenceBy 76 = .ok (.getfield 74, 3) := by decide +kernel
theorem dX9_sentenceBy_79 : decode cX9_sentenceBy 79 = .ok (.iload 4, 2) := by decide +kernel
theorem dX9_sentenceBy_81 : decode cX9_sentenceBy 81 = .ok (.sipush 999, 3) := by decide +kernel
theorem dX9_sentenceBy_84 : decode cX9_sentenceBy 84 = .ok (.invokevirtual 305, 3) := by decide +kernel
theorem dX9_sentenceBy_87 : decode cX9_sentenceBy 87 = .ok (.ireturn, 1) := by decide +kernel
theorem dX9_firstWhoOpens_0 : decode cX9_firstWhoOpens 0 = .ok (.iconst 0, 1) := by decide +kernel
theorem dX9_firstWhoOpens_1 : decode cX9_firstWhoOpens 1 = .ok (.istore_n 2, 1) := by decide +kernel
theorem dX9_firstWhoOpens_2 : decode cX9_firstWhoOpens 2 = .ok (.iload_n 2, 1) := by decide +kernel
theorem dX9_firstWhoOpens_3 : decode cX9_firstWhoOpens 3 = .ok (.aload_n 0, 1) := by decide +kernel
theorem dX9_firstWhoOpens_4 : decode cX9_firstWhoOpens 4 = .ok (.getfield 19, 3) := by decide +kernel
theorem dX9_firstWhoOpens_7 : decode cX9_firstWhoOpens 7 = .ok (.invokevirtual 262, 3) := by decide +kernel
theorem dX9_firstWhoOpens_10 : decode cX9_firstWhoOpens 10 = .ok (.if_icmp .ge 31, 3) := by decide +kernel
theorem dX9_firstWhoOpens_13 : decode cX9_firstWhoOpens 13 = .ok (.aload_n 0, 1) := by decide +kernel
theorem dX9_firstWhoOpens_14 : decode cX9_firstWhoOpens 14 = .ok (.iload_n 2, 1) := by decide +kernel
theorem dX9_firstWhoOpens_15 : decode cX9_firstWhoOpens 15 = .ok (.iload_n 1, 1) := by decide +kernel
theorem dX9_firstWhoOpens_16 : decode cX9_firstWhoOpens 16 = .ok (.iconst 1, 1) := by decide +kernel
theorem dX9_firstWhoOpens_17 : decode cX9_firstWhoOpens 17 = .ok (.invokevirtual 144, 3) := by decide +kernel
theorem dX9_firstWhoOpens_20 : decode cX9_firstWhoOpens 20 = .ok (.ifCond .ne 13, 3) := by decide +kernel
theorem dX9_firstWhoOpens_23 : decode cX9_firstWhoOpens 23 = .ok (.aload_n 0, 1) := by decide +kernel
theorem dX9_firstWhoOpens_24 : decode cX9_firstWhoOpens 24 = .ok (.iload_n 2, 1) := by decide +kernel
theorem dX9_firstWhoOpens_25 : decode cX9_firstWhoOpens 25 = .ok (.iload_n 1, 1) := by decide +kernel
theorem dX9_firstWhoOpens_26 : decode cX9_firstWhoOpens 26 = .ok (.iconst 0, 1) := by decide +kernel
theorem dX9_firstWhoOpens_27 : decode cX9_firstWhoOpens 27 = .ok (.invokevirtual 144, 3) := by decide +kernel
theorem dX9_firstWhoOpens_30 : decode cX9_firstWhoOpens 30 = .ok (.ifCond .eq 5, 3) := by decide +kernel
theorem dX9_firstWhoOpens_33 : decode cX9_firstWhoOpens 33 = .ok (.iload_n 2, 1) := by decide +kernel
theorem dX9_firstWhoOpens_34 : decode cX9_firstWhoOpens 34 = .ok (.ireturn, 1) := by decide +kernel
theorem dX9_firstWhoOpens_35 : decode cX9_firstWhoOpens 35 = .ok (.iinc 2 1, 3) := by decide +kernel
theorem dX9_firstWhoOpens_38 : decode cX9_firstWhoOpens 38 = .ok (.goto (-36), 3) := by decide +kernel
theorem dX9_firstWhoOpens_41 : decode cX9_firstWhoOpens 41 = .ok (.iconst (-1), 1) := by decide +kernel
theorem dX9_firstWhoOpens_42 : decode cX9_firstWhoOpens 42 = .ok (.ireturn, 1) := by decide +kernel
theorem dX9_openFacts_0 : decode cX9_openFacts 0 = .ok (.iconst 0, 1) := by decide +kernel
theorem dX9_openFacts_1 : decode cX9_openFacts 1 = .ok (.istore_n 1, 1) := by decide +kernel
theorem dX9_openFacts_2 : decode cX9_openFacts 2 = .ok (.iconst 0, 1) := by decide +kernel
theorem dX9_openFacts_3 : decode cX9_openFacts 3 = .ok (.istore_n 2, 1) := by decide +kernel
theorem dX9_openFacts_4 : decode cX9_openFacts 4 = .ok (.iload_n 2, 1) := by decide +kernel
theorem dX9_openFacts_5 : decode cX9_openFacts 5 = .ok (.aload_n 0, 1) := by decide +kernel
theorem dX9_openFacts_6 : decode cX9_openFacts 6 = .ok (.getfield 78, 3) := by decide +kernel
theorem dX9_openFacts_9 : decode cX9_openFacts 9 = .ok (.if_icmp .ge 24, 3) := by decide +kernel
theorem dX9_openFacts_12 : decode cX9_openFacts 12 = .ok (.aload_n 0, 1) := by decide +kernel
theorem dX9_openFacts_13 : decode cX9_openFacts 13 = .ok (.iload_n 2, 1) := by decide +kernel
theorem dX9_openFacts_14 : decode cX9_openFacts 14 = .ok (.invokevirtual 220, 3) := by decide +kernel
theorem dX9_openFacts_17 : decode cX9_openFacts 17 = .ok (.iconst (-1), 1) := by decide +kernel
theorem dX9_openFacts_18 : decode cX9_openFacts 18 = .ok (.if_icmp .eq 9, 3) := by decide +kernel
theorem dX9_openFacts_21 : decode cX9_openFacts 21 = .ok (.iload_n 1, 1) := by decide +kernel
theorem dX9_openFacts_22 : decode cX9_openFacts 22 = .ok (.iconst 1, 1) := by decide +kernel
theorem dX9_openFacts_23 : decode cX9_openFacts 23 = .ok (.iload_n 2, 1) := by decide +kernel
theorem dX9_openFacts_24 : decode cX9_openFacts 24 = .ok (.ishl, 1) := by decide +kernel
theorem dX9_openFacts_25 : decode cX9_openFacts 25 = .ok (.ior, 1) := by decide +kernel
theorem dX9_openFacts_26 : decode cX9_openFacts 26 = .ok (.istore_n 1, 1) := by decide +kernel
theorem dX9_openFacts_27 : decode cX9_openFacts 27 = .ok (.iinc 2 1, 3) := by decide +kernel
theorem dX9_openFacts_30 : decode cX9_openFacts 30 = .ok (.goto (-26), 3) := by decide +kernel
theorem dX9_openFacts_33 : decode cX9_openFacts 33 = .ok (.iload_n 1, 1) := by decide +kernel
theorem dX9_openFacts_34 : decode cX9_openFacts 34 = .ok (.ireturn, 1) := by decide +kernel
theorem dX9_twinOf_0 : decode cX9_twinOf 0 = .ok (.iconst 1, 1) := by decide +kernel
theorem dX9_twinOf_1 : decode cX9_twinOf 1 = .ok (.iload_n 3, 1) := by decide +kernel
theorem dX9_twinOf_2 : decode cX9_twinOf 2 = .ok (.ishl, 1) := by decide +kernel
theorem dX9_twinOf_3 : decode cX9_twinOf 3 = .ok (.istore 4, 2) := by decide +kernel
theorem dX9_twinOf_5 : decode cX9_twinOf 5 = .ok (.iconst 1, 1) := by decide +kernel
theorem dX9_twinOf_6 : decode cX9_twinOf 6 = .ok (.aload_n 0, 1) := by decide +kernel
theorem dX9_twinOf_7 : decode cX9_twinOf 7 = .ok (.getfield 78, 3) := by decide +kernel
theorem dX9_twinOf_10 : decode cX9_twinOf 10 = .ok (.ishl, 1) := by decide +kernel
theorem dX9_twinOf_11 : decode cX9_twinOf 11 = .ok (.istore 5, 2) := by decide +kernel
theorem dX9_twinOf_13 : decode cX9_twinOf 13 = .ok (.iconst 0, 1) := by decide +kernel
theorem dX9_twinOf_14 : decode cX9_twinOf 14 = .ok (.istore 6, 2) := by decide +kernel
theorem dX9_twinOf_16 : decode cX9_twinOf 16 = .ok (.iload 6, 2) := by decide +kernel
theorem dX9_twinOf_18 : decode cX9_twinOf 18 = .ok (.iload 5, 2) := by decide +kernel
theorem dX9_twinOf_20 : decode cX9_twinOf 20 = .ok (.if_icmp .ge 45, 3) := by decide +kernel
theorem dX9_twinOf_23 : decode cX9_twinOf 23 = .ok (.iload_n 1, 1) := by decide +kernel
theorem dX9_twinOf_24 : decode cX9_twinOf 24 = .ok (.iload 6, 2) := by decide +kernel
theorem dX9_twinOf_26 : decode cX9_twinOf 26 = .ok (.ixor, 1) := by decide +kernel
theorem dX9_twinOf_27 : decode cX9_twinOf 27 = .ok (.istore 7, 2) := by decide +kernel
theorem dX9_twinOf_29 : decode cX9_twinOf 29 = .ok (.iload 7, 2) := by decide +kernel
theorem dX9_twinOf_31 : decode cX9_twinOf 31 = .ok (.iload 4, 2) := by decide +kernel
theorem dX9_twinOf_33 : decode cX9_twinOf 33 = .ok (.iand, 1) := by decide +kernel
theorem dX9_twinOf_34 : decode cX9_twinOf 34 = .ok (.ifCond .eq 25, 3) := by decide +kernel
theorem dX9_twinOf_37 : decode cX9_twinOf 37 = .ok (.iload 7, 2) := by decide +kernel
theorem dX9_twinOf_39 : decode cX9_twinOf 39 = .ok (.iload_n 2, 1) := by decide +kernel
theorem dX9_twinOf_40 : decode cX9_twinOf 40 = .ok (.iand, 1) := by decide +kernel
theorem dX9_twinOf_41 : decode cX9_twinOf 41 = .ok (.ifCond .ne 18, 3) := by decide +kernel
theorem dX9_twinOf_44 : decode cX9_twinOf 44 = .ok (.aload_n 0, 1) := by decide +kernel
theorem dX9_twinOf_45 : decode cX9_twinOf 45 = .ok (.getfield 65, 3) := by decide +kernel
theorem dX9_twinOf_48 : decode cX9_twinOf 48 = .ok (.iload 6, 2) := by decide +kernel
theorem dX9_twinOf_50 : decode cX9_twinOf 50 = .ok (.invokevirtual 179, 3) := by decide +kernel
theorem dX9_twinOf_53 : decode cX9_twinOf 53 = .ok (.ifCond .eq 6, 3) := by decide +kernel
theorem dX9_twinOf_56 : decode cX9_twinOf 56 = .ok (.iload 6, 2) := by decide +kernel
theorem dX9_twinOf_58 : decode cX9_twinOf 58 = .ok (.ireturn, 1) := by decide +kernel
theorem dX9_twinOf_59 : decode cX9_twinOf 59 = .ok (.iinc 6 1, 3) := by decide +kernel
theorem dX9_twinOf_62 : decode cX9_twinOf 62 = .ok (.goto (-46), 3) := by decide +kernel
theorem dX9_twinOf_65 : decode cX9_twinOf 65 = .ok (.bipush (-2), 2) := by decide +kernel
theorem dX9_twinOf_67 : decode cX9_twinOf 67 = .ok (.ireturn, 1) := by decide +kernel
theorem dX9_sayable_0 : decode cX9_sayable 0 = .ok (.iconst 0, 1) := by decide +kernel
theorem dX9_sayable_1 : decode cX9_sayable 1 = .ok (.istore_n 2, 1) := by decide +kernel
theorem dX9_sayable_2 : decode cX9_sayable 2 = .ok (.iconst 0, 1) := by decide +kernel
theorem dX9_sayable_3 : decode cX9_sayable 3 = .ok (.istore_n 3, 1) := by decide +kernel
theorem dX9_sayable_4 : decode cX9_sayable 4 = .ok (.iload_n 3, 1) := by decide +kernel
theorem dX9_sayable_5 : decode cX9_sayable 5 = .ok (.aload_n 0, 1) := by decide +kernel
theorem dX9_sayable_6 : decode cX9_sayable 6 = .ok (.getfield 78, 3) := by decide +kernel
theorem dX9_sayable_9 : decode cX9_sayable 9 = .ok (.if_icmp .ge 29, 3) := by decide +kernel
theorem dX9_sayable_12 : decode cX9_sayable 12 = .ok (.aload_n 0, 1) := by decide +kernel
theorem dX9_sayable_13 : decode cX9_sayable 13 = .ok (.iload_n 1, 1) := by decide +kernel
theorem dX9_sayable_14 : decode cX9_sayable 14 = .ok (.iload_n 3, 1) := by decide +kernel
theorem dX9_sayable_15 : decode cX9_sayable 15 = .ok (.aload_n 0, 1) := by decide +kernel
theorem dX9_sayable_16 : decode cX9_sayable 16 = .ok (.iload_n 3, 1) := by decide +kernel
theorem dX9_sayable_17 : decode cX9_sayable 17 = .ok (.invokevirtual 240, 3) := by decide +kernel
theorem dX9_sayable_20 : decode cX9_sayable 20 = .ok (.invokevirtual 144, 3) := by decide +kernel
theorem dX9_sayable_23 : decode cX9_sayable 23 = .ok (.ifCond .eq 9, 3) := by decide +kernel
theorem dX9_sayable_26 : decode cX9_sayable 26 = .ok (.iload_n 2, 1) := by decide +kernel
theorem dX9_sayable_27 : decode cX9_sayable 27 = .ok (.iconst 1, 1) := by decide +kernel
theorem dX9_sayable_28 : decode cX9_sayable 28 = .ok (.iload_n 3, 1) := by decide +kernel
theorem dX9_sayable_29 : decode cX9_sayable 29 = .ok (.ishl, 1) := by decide +kernel
theorem dX9_sayable_30 : decode cX9_sayable 30 = .ok (.ior, 1) := by decide +kernel
theorem dX9_sayable_31 : decode cX9_sayable 31 = .ok (.istore_n 2, 1) := by decide +kernel
theorem dX9_sayable_32 : decode cX9_sayable 32 = .ok (.iinc 3 1, 3) := by decide +kernel
theorem dX9_sayable_35 : decode cX9_sayable 35 = .ok (.goto (-31), 3) := by decide +kernel
theorem dX9_sayable_38 : decode cX9_sayable 38 = .ok (.iload_n 2, 1) := by decide +kernel
theorem dX9_sayable_39 : decode cX9_sayable 39 = .ok (.ireturn, 1) := by decide +kernel
theorem dX9_bestSet_0 : decode cX9_bestSet 0 = .ok (.iconst 0, 1) := by decide +kernel
theorem dX9_bestSet_1 : decode cX9_bestSet 1 = .ok (.istore_n 3, 1) := by decide +kernel
theorem dX9_bestSet_2 : decode cX9_bestSet 2 = .ok (.aload_n 0, 1) := by decide +kernel
theorem dX9_bestSet_3 : decode cX9_bestSet 3 = .ok (.iload_n 1, 1) := by decide +kernel
theorem dX9_bestSet_4 : decode cX9_bestSet 4 = .ok (.iconst 0, 1) := by decide +kernel
theorem dX9_bestSet_5 : decode cX9_bestSet 5 = .ok (.iload_n 2, 1) := by decide +kernel
theorem dX9_bestSet_6 : decode cX9_bestSet 6 = .ok (.invokevirtual 252, 3) := by decide +kernel
theorem dX9_bestSet_9 : decode cX9_bestSet 9 = .ok (.istore 4, 2) := by decide +kernel
theorem dX9_bestSet_11 : decode cX9_bestSet 11 = .ok (.iconst 1, 1) := by decide +kernel
theorem dX9_bestSet_12 : decode cX9_bestSet 12 = .ok (.istore 5, 2) := by decide +kernel
theorem dX9_bestSet_14 : decode cX9_bestSet 14 = .ok (.iload 5, 2) := by decide +kernel
theorem dX9_bestSet_16 : decode cX9_bestSet 16 = .ok (.iload_n 2, 1) := by decide +kernel
theorem dX9_bestSet_17 : decode cX9_bestSet 17 = .ok (.if_icmp .gt 55, 3) := by decide +kernel
theorem dX9_bestSet_20 : decode cX9_bestSet 20 = .ok (.iload 5, 2) := by decide +kernel
theorem dX9_bestSet_22 : decode cX9_bestSet 22 = .ok (.iload_n 2, 1) := by decide +kernel
theorem dX9_bestSet_23 : decode cX9_bestSet 23 = .ok (.iconst (-1), 1) := by decide +kernel
theorem dX9_bestSet_24 : decode cX9_bestSet 24 = .ok (.ixor, 1) := by decide +kernel
theorem dX9_bestSet_25 : decode cX9_bestSet 25 = .ok (.iand, 1) := by decide +kernel
theorem dX9_bestSet_26 : decode cX9_bestSet 26 = .ok (.ifCond .ne 40, 3) := by decide +kernel
theorem dX9_bestSet_29 : decode cX9_bestSet 29 = .ok (.aload_n 0, 1) := by decide +kernel
theorem dX9_bestSet_30 : decode cX9_bestSet 30 = .ok (.iload_n 1, 1) := by decide +kernel
theorem dX9_bestSet_31 : decode cX9_bestSet 31 = .ok (.iload 5, 2) := by decide +kernel
theorem dX9_bestSet_33 : decode cX9_bestSet 33 = .ok (.iload_n 2, 1) := by decide +kernel
theorem dX9_bestSet_34 : decode cX9_bestSet 34 = .ok (.invokevirtual 327, 3) := by decide +kernel
theorem dX9_bestSet_37 : decode cX9_bestSet 37 = .ok (.iload 4, 2) := by decide +kernel
theorem dX9_bestSet_39 : decode cX9_bestSet 39 = .ok (.if_icmp .ge 27, 3) := by decide +kernel
theorem dX9_bestSet_42 : decode cX9_bestSet 42 = .ok (.aload_n 0, 1) := by decide +kernel
theorem dX9_bestSet_43 : decode cX9_bestSet 43 = .ok (.iload_n 1, 1) := by decide +kernel
theorem dX9_bestSet_44 : decode cX9_bestSet 44 = .ok (.iload 5, 2) := by decide +kernel
theorem dX9_bestSet_46 : decode cX9_bestSet 46 = .ok (.iload_n 2, 1) := by decide +kernel
theorem dX9_bestSet_47 : decode cX9_bestSet 47 = .ok (.invokevirtual 252, 3) := by decide +kernel
theorem dX9_bestSet_50 : decode cX9_bestSet 50 = .ok (.istore 6, 2) := by decide +kernel
theorem dX9_bestSet_52 : decode cX9_bestSet 52 = .ok (.iload 6, 2) := by decide +kernel
theorem dX9_bestSet_54 : decode cX9_bestSet 54 = .ok (.iload 4, 2) := by decide +kernel
theorem dX9_bestSet_56 : decode cX9_bestSet 56 = .ok (.if_icmp .ge 10, 3) := by decide +kernel
theorem dX9_bestSet_59 : decode cX9_bestSet 59 = .ok (.iload 6, 2) := by decide +kernel
theorem dX9_bestSet_61 : decode cX9_bestSet 61 = .ok (.istore 4, 2) := by decide +kernel
theorem dX9_bestSet_63 : decode cX9_bestSet 63 = .ok (.iload 5, 2) := by decide +kernel
theorem dX9_bestSet_65 : decode cX9_bestSet 65 = .ok (.istore_n 3, 1) := by decide +kernel
theorem dX9_bestSet_66 : decode cX9_bestSet 66 = .ok (.iinc 5 1, 3) := by decide +kernel
theorem dX9_bestSet_69 : decode cX9_bestSet 69 = .ok (.goto (-55), 3) := by decide +kernel
theorem dX9_bestSet_72 : decode cX9_bestSet 72 = .ok (.iload_n 3, 1) := by decide +kernel
theorem dX9_bestSet_73 : decode cX9_bestSet 73 = .ok (.ireturn, 1) := by decide +kernel
theorem dX9_paysIfSaid_0 : decode cX9_paysIfSaid 0 = .ok (.aload_n 0, 1) := by decide +kernel
theorem dX9_paysIfSaid_1 : decode cX9_paysIfSaid 1 = .ok (.getfield 19, 3) := by decide +kernel
theorem dX9_paysIfSaid_4 : decode cX9_paysIfSaid 4 = .ok (.iload_n 1, 1) := by decide +kernel
theorem dX9_paysIfSaid_5 : decode cX9_paysIfSaid 5 = .ok (.invokevirtual 279, 3) := by decide +kernel
theorem dX9_paysIfSaid_8 : decode cX9_paysIfSaid 8 = .ok (.iload_n 3, 1) := by decide +kernel
theorem dX9_paysIfSaid_9 : decode cX9_paysIfSaid 9 = .ok (.iload_n 2, 1) := by decide +kernel
theorem dX9_paysIfSaid_10 : decode cX9_paysIfSaid 10 = .ok (.iconst (-1), 1) := by decide +kernel
theorem dX9_paysIfSaid_11 : decode cX9_paysIfSaid 11 = .ok (.ixor, 1) := by decide +kernel
theorem dX9_paysIfSaid_12 : decode cX9_paysIfSaid 12 = .ok (.iand, 1) := by decide +kernel
theorem dX9_paysIfSaid_13 : decode cX9_paysIfSaid 13 = .ok (.invokestatic 226, 3) := by decide +kernel
theorem dX9_paysIfSaid_16 : decode cX9_paysIfSaid 16 = .ok (.imul, 1) := by decide +kernel
theorem dX9_paysIfSaid_17 : decode cX9_paysIfSaid 17 = .ok (.istore 4, 2) := by decide +kernel
theorem dX9_paysIfSaid_19 : decode cX9_paysIfSaid 19 = .ok (.iconst 0, 1) := by decide +kernel
theorem dX9_paysIfSaid_20 : decode cX9_paysIfSaid 20 = .ok (.istore 5, 2) := by decide +kernel
theorem dX9_paysIfSaid_22 : decode cX9_paysIfSaid 22 = .ok (.iload 5, 2) := by decide +kernel
theorem dX9_paysIfSaid_24 : decode cX9_paysIfSaid 24 = .ok (.aload_n 0, 1) := by decide +kernel
theorem dX9_paysIfSaid_25 : decode cX9_paysIfSaid 25 = .ok (.getfield 78, 3) := by decide +kernel
theorem dX9_paysIfSaid_28 : decode cX9_paysIfSaid 28 = .ok (.if_icmp .ge 40, 3) := by decide +kernel
theorem dX9_paysIfSaid_31 : decode cX9_paysIfSaid 31 = .ok (.iload_n 2, 1) := by decide +kernel
theorem dX9_paysIfSaid_32 : decode cX9_paysIfSaid 32 = .ok (.iload 5, 2) := by decide +kernel
theorem dX9_paysIfSaid_34 : decode cX9_paysIfSaid 34 = .ok (.ishr, 1) := by decide +kernel
theorem dX9_paysIfSaid_35 : decode cX9_paysIfSaid 35 = .ok (.iconst 1, 1) := by decide +kernel
theorem dX9_paysIfSaid_36 : decode cX9_paysIfSaid 36 = .ok (.iand, 1) := by decide +kernel
theorem dX9_paysIfSaid_37 : decode cX9_paysIfSaid 37 = .ok (.iconst 1, 1) := by decide +kernel
theorem dX9_paysIfSaid_38 : decode cX9_paysIfSaid 38 = .ok (.if_icmp .ne 24, 3) := by decide +kernel
theorem dX9_paysIfSaid_41 : decode cX9_paysIfSaid 41 = .ok (.iload 4, 2) := by decide +kernel
theorem dX9_paysIfSaid_43 : decode cX9_paysIfSaid 43 = .ok (.aload_n 0, 1) := by decide +kernel
theorem dX9_paysIfSaid_44 : decode cX9_paysIfSaid 44 = .ok (.getfield 19, 3) := by decide +kernel
theorem dX9_paysIfSaid_47 : decode cX9_paysIfSaid 47 = .ok (.iload_n 1, 1) := by decide +kernel
theorem dX9_paysIfSaid_48 : decode cX9_paysIfSaid 48 = .ok (.iload 5, 2) := by decide +kernel
theorem dX9_paysIfSaid_50 : decode cX9_paysIfSaid 50 = .ok (.aload_n 0, 1) := by decide +kernel
theorem dX9_paysIfSaid_51 : decode cX9_paysIfSaid 51 = .ok (.iload 5, 2) := by decide +kernel
theorem dX9_paysIfSaid_53 : decode cX9_paysIfSaid 53 = .ok (.invokevirtual 240, 3) := by decide +kernel
theorem dX9_paysIfSaid_56 : decode cX9_paysIfSaid 56 = .ok (.invokevirtual 243, 3) := by decide +kernel
theorem dX9_paysIfSaid_59 : decode cX9_paysIfSaid 59 = .ok (.iadd, 1) := by decide +kernel
theorem dX9_paysIfSaid_60 : decode cX9_paysIfSaid 60 = .ok (.istore 4, 2) := by decide +kernel
theorem dX9_paysIfSaid_62 : decode cX9_paysIfSaid 62 = .ok (.iinc 5 1, 3) := by decide +kernel
theorem dX9_paysIfSaid_65 : decode cX9_paysIfSaid 65 = .ok (.goto (-43), 3) := by decide +kernel
theorem dX9_paysIfSaid_68 : decode cX9_paysIfSaid 68 = .ok (.iload 4, 2) := by decide +kernel
theorem dX9_paysIfSaid_70 : decode cX9_paysIfSaid 70 = .ok (.ireturn, 1) := by decide +kernel
theorem dX9_costIfSaid_0 : decode cX9_costIfSaid 0 = .ok (.aload_n 0, 1) := by decide +kernel
theorem dX9_costIfSaid_1 : decode cX9_costIfSaid 1 = .ok (.iload_n 1, 1) := by decide +kernel
theorem dX9_costIfSaid_2 : decode cX9_costIfSaid 2 = .ok (.iload_n 2, 1) := by decide +kernel
theorem dX9_costIfSaid_3 : decode cX9_costIfSaid 3 = .ok (.iload_n 3, 1) := by decide +kernel
theorem dX9_costIfSaid_4 : decode cX9_costIfSaid 4 = .ok (.invokevirtual 327, 3) := by decide +kernel
theorem dX9_costIfSaid_7 : decode cX9_costIfSaid 7 = .ok (.istore 4, 2) := by decide +kernel
theorem dX9_costIfSaid_9 : decode cX9_costIfSaid 9 = .ok (.aload_n 0, 1) := by decide +kernel
theorem dX9_costIfSaid_10 : decode cX9_costIfSaid 10 = .ok (.getfield 68, 3) := by decide +kernel
theorem dX9_costIfSaid_13 : decode cX9_costIfSaid 13 = .ok (.aload_n 0, 1) := by decide +kernel
theorem dX9_costIfSaid_14 : decode cX9_costIfSaid 14 = .ok (.getfield 65, 3) := by decide +kernel
theorem dX9_costIfSaid_17 : decode cX9_costIfSaid 17 = .ok (.invokevirtual 184, 3) := by decide +kernel
theorem dX9_costIfSaid_20 : decode cX9_costIfSaid 20 = .ok (.iconst 0, 1) := by decide +kernel
theorem dX9_costIfSaid_21 : decode cX9_costIfSaid 21 = .ok (.istore 5, 2) := by decide +kernel
theorem dX9_costIfSaid_23 : decode cX9_costIfSaid 23 = .ok (.iload 5, 2) := by decide +kernel
theorem dX9_costIfSaid_25 : decode cX9_costIfSaid 25 = .ok (.aload_n 0, 1) := by decide +kernel
theorem dX9_costIfSaid_26 : decode cX9_costIfSaid 26 = .ok (.getfield 78, 3) := by decide +kernel
theorem dX9_costIfSaid_29 : decode cX9_costIfSaid 29 = .ok (.if_icmp .ge 34, 3) := by decide +kernel
theorem dX9_costIfSaid_32 : decode cX9_costIfSaid 32 = .ok (.iload_n 2, 1) := by decide +kernel
theorem dX9_costIfSaid_33 : decode cX9_costIfSaid 33 = .ok (.iload 5, 2) := by decide +kernel
theorem dX9_costIfSaid_35 : decode cX9_costIfSaid 35 = .ok (.ishr, 1) := by decide +kernel
theorem dX9_costIfSaid_36 : decode cX9_costIfSaid 36 = .ok (.iconst 1, 1) := by decide +kernel
theorem dX9_costIfSaid_37 : decode cX9_costIfSaid 37 = .ok (.iand, 1) := by decide +kernel
theorem dX9_costIfSaid_38 : decode cX9_costIfSaid 38 = .ok (.iconst 1, 1) := by decide +kernel
theorem dX9_costIfSaid_39 : decode cX9_costIfSaid 39 = .ok (.if_icmp .ne 18, 3) := by decide +kernel
theorem dX9_costIfSaid_42 : decode cX9_costIfSaid 42 = .ok (.aload_n 0, 1) := by decide +kernel
theorem dX9_costIfSaid_43 : decode cX9_costIfSaid 43 = .ok (.getfield 68, 3) := by decide +kernel
theorem dX9_costIfSaid_46 : decode cX9_costIfSaid 46 = .ok (.iload 5, 2) := by decide +kernel
theorem dX9_costIfSaid_48 : decode cX9_costIfSaid 48 = .ok (.aload_n 0, 1) := by decide +kernel
theorem dX9_costIfSaid_49 : decode cX9_costIfSaid 49 = .ok (.iload 5, 2) := by decide +kernel
theorem dX9_costIfSaid_51 : decode cX9_costIfSaid 51 = .ok (.invokevirtual 240, 3) := by decide +kernel
theorem dX9_costIfSaid_54 : decode cX9_costIfSaid 54 = .ok (.invokevirtual 313, 3) := by decide +kernel
theorem dX9_costIfSaid_57 : decode cX9_costIfSaid 57 = .ok (.iinc 5 1, 3) := by decide +kernel
theorem dX9_costIfSaid_60 : decode cX9_costIfSaid 60 = .ok (.goto (-37), 3) := by decide +kernel
theorem dX9_costIfSaid_63 : decode cX9_costIfSaid 63 = .ok (.iload 4, 2) := by decide +kernel
theorem dX9_costIfSaid_65 : decode cX9_costIfSaid 65 = .ok (.aload_n 0, 1) := by decide +kernel
theorem dX9_costIfSaid_66 : decode cX9_costIfSaid 66 = .ok (.aload_n 0, 1) := by decide +kernel
theorem dX9_costIfSaid_67 : decode cX9_costIfSaid 67 = .ok (.getfield 68, 3) := by decide +kernel
theorem dX9_costIfSaid_70 : decode cX9_costIfSaid 70 = .ok (.iload_n 1, 1) := by decide +kernel
theorem dX9_costIfSaid_71 : decode cX9_costIfSaid 71 = .ok (.aload_n 0, 1) := by decide +kernel
theorem dX9_costIfSaid_72 : decode cX9_costIfSaid 72 = .ok (.getfield 19, 3) := by decide +kernel
theorem dX9_costIfSaid_75 : decode cX9_costIfSaid 75 = .ok (.iload_n 1, 1) := by decide +kernel
theorem dX9_costIfSaid_76 : decode cX9_costIfSaid 76 = .ok (.invokevirtual 190, 3) := by decide +kernel
theorem dX9_costIfSaid_79 : decode cX9_costIfSaid 79 = .ok (.iload 4, 2) := by decide +kernel
theorem dX9_costIfSaid_81 : decode cX9_costIfSaid 81 = .ok (.iadd, 1) := by decide +kernel
theorem dX9_costIfSaid_82 : decode cX9_costIfSaid 82 = .ok (.invokevirtual 193, 3) := by decide +kernel
theorem dX9_costIfSaid_85 : decode cX9_costIfSaid 85 = .ok (.iadd, 1) := by decide +kernel
theorem dX9_costIfSaid_86 : decode cX9_costIfSaid 86 = .ok (.ireturn, 1) := by decide +kernel
theorem dX9_hasWrongAnswer_0 : decode cX9_hasWrongAnswer 0 = .ok (.iconst 0, 1) := by decide +kernel
theorem dX9_hasWrongAnswer_1 : decode cX9_hasWrongAnswer 1 = .ok (.istore_n 2, 1) := by decide +kernel
theorem dX9_hasWrongAnswer_2 : decode cX9_hasWrongAnswer 2 = .ok (.iload_n 2, 1) := by decide +kernel
theorem dX9_hasWrongAnswer_3 : decode cX9_hasWrongAnswer 3 = .ok (.iload_n 1, 1) := by decide +kernel
theorem dX9_hasWrongAnswer_4 : decode cX9_hasWrongAnswer 4 = .ok (.if_icmp .ge 27, 3) := by decide +kernel
theorem dX9_hasWrongAnswer_7 : decode cX9_hasWrongAnswer 7 = .ok (.aload_n 0, 1) := by decide +kernel
theorem dX9_hasWrongAnswer_8 : decode cX9_hasWrongAnswer 8 = .ok (.getfield 10, 3) := by decide +kernel
theorem dX9_hasWrongAnswer_11 : decode cX9_hasWrongAnswer 11 = .ok (.iconst 3, 1) := by decide +kernel
theorem dX9_hasWrongAnswer_12 : decode cX9_hasWrongAnswer 12 = .ok (.iload_n 2, 1) := by decide +kernel
theorem dX9_hasWrongAnswer_13 : decode cX9_hasWrongAnswer 13 = .ok (.imul, 1) := by decide +kernel
theorem dX9_hasWrongAnswer_14 : decode cX9_hasWrongAnswer 14 = .ok (.iconst 2, 1) := by decide +kernel
theorem dX9_hasWrongAnswer_15 : decode cX9_hasWrongAnswer 15 = .ok (.iadd, 1) := by decide +kernel
theorem dX9_hasWrongAnswer_16 : decode cX9_hasWrongAnswer 16 = .ok (.invokevirtual 330, 3) := by decide +kernel
theorem dX9_hasWrongAnswer_19 : decode cX9_hasWrongAnswer 19 = .ok (.iconst 2, 1) := by decide +kernel
theorem dX9_hasWrongAnswer_20 : decode cX9_hasWrongAnswer 20 = .ok (.if_icmp .le 5, 3) := by decide +kernel
theorem dX9_hasWrongAnswer_23 : decode cX9_hasWrongAnswer 23 = .ok (.iconst 1, 1) := by decide +kernel
theorem dX9_hasWrongAnswer_24 : decode cX9_hasWrongAnswer 24 = .ok (.ireturn, 1) := by decide +kernel
theorem dX9_hasWrongAnswer_25 : decode cX9_hasWrongAnswer 25 = .ok (.iinc 2 1, 3) := by decide +kernel
theorem dX9_hasWrongAnswer_28 : decode cX9_hasWrongAnswer 28 = .ok (.goto (-26), 3) := by decide +kernel
theorem dX9_hasWrongAnswer_31 : decode cX9_hasWrongAnswer 31 = .ok (.iconst 0, 1) := by decide +kernel
theorem dX9_hasWrongAnswer_32 : decode cX9_hasWrongAnswer 32 = .ok (.ireturn, 1) := by decide +kernel
theorem dX9_judgement_0 : decode cX9_judgement 0 = .ok (.aload_n 0, 1) := by decide +kernel
theorem dX9_judgement_1 : decode cX9_judgement 1 = .ok (.getfield 68, 3) := by decide +kernel
theorem dX9_judgement_4 : decode cX9_judgement 4 = .ok (.aload_n 0, 1) := by decide +kernel
theorem dX9_judgement_5 : decode cX9_judgement 5 = .ok (.getfield 61, 3) := by decide +kernel
theorem dX9_judgement_8 : decode cX9_judgement 8 = .ok (.invokevirtual 184, 3) := by decide +kernel
theorem dX9_judgement_11 : decode cX9_judgement 11 = .ok (.iconst 0, 1) := by decide +kernel
theorem dX9_judgement_12 : decode cX9_judgement 12 = .ok (.istore_n 3, 1) := by decide +kernel
theorem dX9_judgement_13 : decode cX9_judgement 13 = .ok (.iload_n 3, 1) := by decide +kernel
theorem dX9_judgement_14 : decode cX9_judgement 14 = .ok (.iload_n 1, 1) := by decide +kernel
theorem dX9_judgement_15 : decode cX9_judgement 15 = .ok (.if_icmp .ge 84, 3) := by decide +kernel
theorem dX9_judgement_18 : decode cX9_judgement 18 = .ok (.aload_n 0, 1) := by decide +kernel
theorem dX9_judgement_19 : decode cX9_judgement 19 = .ok (.getfield 68, 3) := by decide +kernel
theorem dX9_judgement_22 : decode cX9_judgement 22 = .ok (.invokevirtual 95, 3) := by decide +kernel
theorem dX9_judgement_25 : decode cX9_judgement 25 = .ok (.istore 4, 2) := by decide +kernel
theorem dX9_judgement_27 : decode cX9_judgement 27 = .ok (.aload_n 0, 1) := by decide +kernel
theorem dX9_judgement_28 : decode cX9_judgement 28 = .ok (.aload_n 0, 1) := by decide +kernel
theorem dX9_judgement_29 : decode cX9_judgement 29 = .ok (.getfield 10, 3) := by decide +kernel
theorem dX9_judgement_32 : decode cX9_judgement 32 = .ok (.iconst 3, 1) := by decide +kernel
theorem dX9_judgement_33 : decode cX9_judgement 33 = .ok (.iload_n 3, 1) := by decide +kernel
theorem dX9_judgement_34 : decode cX9_judgement 34 = .ok (.imul, 1) := by decide +kernel
theorem dX9_judgement_35 : decode cX9_judgement 35 = .ok (.invokevirtual 330, 3) := by decide +kernel
theorem dX9_judgement_38 : decode cX9_judgement 38 = .ok (.aload_n 0, 1) := by decide +kernel
theorem dX9_judgement_39 : decode cX9_judgement 39 = .ok (.getfield 10, 3) := by decide +kernel
theorem dX9_judgement_42 : decode cX9_judgement 42 = .ok (.iconst 3, 1) := by decide +kernel
theorem dX9_judgement_43 : decode cX9_judgement 43 = .ok (.iload_n 3, 1) := by decide +kernel
theorem dX9_judgement_44 : decode cX9_judgement 44 = .ok (.imul, 1) := by decide +kernel
theorem dX9_judgement_45 : decode cX9_judgement 45 = .ok (.iconst 1, 1) := by decide +kernel
theorem dX9_judgement_46 : decode cX9_judgement 46 = .ok (.iadd, 1) := by decide +kernel
theorem dX9_judgement_47 : decode cX9_judgement 47 = .ok (.invokevirtual 330, 3) := by decide +kernel
theorem dX9_judgement_50 : decode cX9_judgement 50 = .ok (.aload_n 0, 1) := by decide +kernel
theorem dX9_judgement_51 : decode cX9_judgement 51 = .ok (.getfield 10, 3) := by decide +kernel
theorem dX9_judgement_54 : decode cX9_judgement 54 = .ok (.iconst 3, 1) := by decide +kernel
theorem dX9_judgement_55 : decode cX9_judgement 55 = .ok (.iload_n 3, 1) := by decide +kernel
theorem dX9_judgement_56 : decode cX9_judgement 56 = .ok (.imul, 1) := by decide +kernel
theorem dX9_judgement_57 : decode cX9_judgement 57 = .ok (.iconst 2, 1) := by decide +kernel
theorem dX9_judgement_58 : decode cX9_judgement 58 = .ok (.iadd, 1) := by decide +kernel
theorem dX9_judgement_59 : decode cX9_judgement 59 = .ok (.invokevirtual 330, 3) := by decide +kernel
theorem dX9_judgement_62 : decode cX9_judgement 62 = .ok (.invokevirtual 333, 3) := by decide +kernel
theorem dX9_judgement_65 : decode cX9_judgement 65 = .ok (.istore 5, 2) := by decide +kernel
theorem dX9_judgement_67 : decode cX9_judgement 67 = .ok (.iload 5, 2) := by decide +kernel
theorem dX9_judgement_69 : decode cX9_judgement 69 = .ok (.ifCond .eq 24, 3) := by decide +kernel
theorem dX9_judgement_72 : decode cX9_judgement 72 = .ok (.iload_n 2, 1) := by decide +kernel
theorem dX9_judgement_73 : decode cX9_judgement 73 = .ok (.ifCond .ne 7, 3) := by decide +kernel
theorem dX9_judgement_76 : decode cX9_judgement 76 = .ok (.iload_n 3, 1) := by decide +kernel
theorem dX9_judgement_77 : decode cX9_judgement 77 = .ok (.goto 15, 3) := by decide +kernel
theorem dX9_judgement_80 : decode cX9_judgement 80 = .ok (.iload_n 2, 1) := by decide +kernel
theorem dX9_judgement_81 : decode cX9_judgement 81 = .ok (.iconst 1, 1) := by decide +kernel
theorem dX9_judgement_82 : decode cX9_judgement 82 = .ok (.if_icmp .ne 8, 3) := by decide +kernel
theorem dX9_judgement_85 : decode cX9_judgement 85 = .ok (.iload 5, 2) := by decide +kernel
theorem dX9_judgement_87 : decode cX9_judgement 87 = .ok (.goto 5, 3) := by decide +kernel
theorem dX9_judgement_90 : decode cX9_judgement 90 = .ok (.iload 4, 2) := by decide +kernel
theorem dX9_judgement_92 : decode cX9_judgement 92 = .ok (.ireturn, 1) := by decide +kernel
theorem dX9_judgement_93 : decode cX9_judgement 93 = .ok (.iinc 3 1, 3) := by decide +kernel
theorem dX9_judgement_96 : decode cX9_judgement 96 = .ok (.goto (-83), 3) := by decide +kernel
theorem dX9_judgement_99 : decode cX9_judgement 99 = .ok (.iload_n 2, 1) := by decide +kernel
theorem dX9_judgement_100 : decode cX9_judgement 100 = .ok (.ifCond .ne 7, 3) := by decide +kernel
theorem dX9_judgement_103 : decode cX9_judgement 103 = .ok (.iconst (-1), 1) := by decide +kernel
theorem dX9_judgement_104 : decode cX9_judgement 104 = .ok (.goto 19, 3) := by decide +kernel
theorem dX9_judgement_107 : decode cX9_judgement 107 = .ok (.iload_n 2, 1) := by decide +kernel
theorem dX9_judgement_108 : decode cX9_judgement 108 = .ok (.iconst 1, 1) := by decide +kernel
theorem dX9_judgement_109 : decode cX9_judgement 109 = .ok (.if_icmp .ne 7, 3) := by decide +kernel
theorem dX9_judgement_112 : decode cX9_judgement 112 = .ok (.iconst 0, 1) := by decide +kernel
theorem dX9_judgement_113 : decode cX9_judgement 113 = .ok (.goto 10, 3) := by decide +kernel
theorem dX9_judgement_116 : decode cX9_judgement 116 = .ok (.aload_n 0, 1) := by decide +kernel
theorem dX9_judgement_117 : decode cX9_judgement 117 = .ok (.getfield 68, 3) := by decide +kernel
theorem dX9_judgement_120 : decode cX9_judgement 120 = .ok (.invokevirtual 95, 3) := by decide +kernel
theorem dX9_judgement_123 : decode cX9_judgement 123 = .ok (.ireturn, 1) := by decide +kernel
theorem dX9_whyNot_0 : decode cX9_whyNot 0 = .ok (.aload_n 0, 1) := by decide +kernel
theorem dX9_whyNot_1 : decode cX9_whyNot 1 = .ok (.getfield 19, 3) := by decide +kernel
theorem dX9_whyNot_4 : decode cX9_whyNot 4 = .ok (.iload_n 1, 1) := by decide +kernel
theorem dX9_whyNot_5 : decode cX9_whyNot 5 = .ok (.invokevirtual 102, 3) := by decide +kernel
theorem dX9_whyNot_8 : decode cX9_whyNot 8 = .ok (.ifCond .eq 11, 3) := by decide +kernel
theorem dX9_whyNot_11 : decode cX9_whyNot 11 = .ok (.aload_n 0, 1) := by decide +kernel
theorem dX9_whyNot_12 : decode cX9_whyNot 12 = .ok (.iload_n 2, 1) := by decide +kernel
theorem dX9_whyNot_13 : decode cX9_whyNot 13 = .ok (.invokevirtual 141, 3) := by decide +kernel
theorem dX9_whyNot_16 : decode cX9_whyNot 16 = .ok (.ifCond .ne 5, 3) := by decide +kernel
theorem dX9_whyNot_19 : decode cX9_whyNot 19 = .ok (.iconst 1, 1) := by decide +kernel
theorem dX9_whyNot_20 : decode cX9_whyNot 20 = .ok (.ireturn, 1) := by decide +kernel
theorem dX9_whyNot_21 : decode cX9_whyNot 21 = .ok (.iload_n 3, 1) := by decide +kernel
theorem dX9_whyNot_22 : decode cX9_whyNot 22 = .ok (.iconst 2, 1) := by decide +kernel
theorem dX9_whyNot_23 : decode cX9_whyNot 23 = .ok (.if_icmp .eq 45, 3) := by decide +kernel
theorem dX9_whyNot_26 : decode cX9_whyNot 26 = .ok (.aload_n 0, 1) := by decide +kernel
theorem dX9_whyNot_27 : decode cX9_whyNot 27 = .ok (.getfield 19, 3) := by decide +kernel
theorem dX9_whyNot_30 : decode cX9_whyNot 30 = .ok (.iload_n 1, 1) := by decide +kernel
theorem dX9_whyNot_31 : decode cX9_whyNot 31 = .ok (.iload_n 2, 1) := by decide +kernel
theorem dX9_whyNot_32 : decode cX9_whyNot 32 = .ok (.invokevirtual 237, 3) := by decide +kernel
theorem dX9_whyNot_35 : decode cX9_whyNot 35 = .ok (.ifCond .ne 5, 3) := by decide +kernel
theorem dX9_whyNot_38 : decode cX9_whyNot 38 = .ok (.iconst 2, 1) := by decide +kernel
theorem dX9_whyNot_39 : decode cX9_whyNot 39 = .ok (.ireturn, 1) := by decide +kernel
theorem dX9_whyNot_40 : decode cX9_whyNot 40 = .ok (.aload_n 0, 1) := by decide +kernel
theorem dX9_whyNot_41 : decode cX9_whyNot 41 = .ok (.getfield 19, 3) := by decide +kernel
theorem dX9_whyNot_44 : decode cX9_whyNot 44 = .ok (.iload_n 1, 1) := by decide +kernel
theorem dX9_whyNot_45 : decode cX9_whyNot 45 = .ok (.iload_n 2, 1) := by decide +kernel
theorem dX9_whyNot_46 : decode cX9_whyNot 46 = .ok (.iload_n 3, 1) := by decide +kernel
theorem dX9_whyNot_47 : decode cX9_whyNot 47 = .ok (.invokevirtual 243, 3) := by decide +kernel
theorem dX9_whyNot_50 : decode cX9_whyNot 50 = .ok (.iconst 1, 1) := by decide +kernel
theorem dX9_whyNot_51 : decode cX9_whyNot 51 = .ok (.if_icmp .ge 5, 3) := by decide +kernel
theorem dX9_whyNot_54 : decode cX9_whyNot 54 = .ok (.iconst 3, 1) := by decide +kernel
theorem dX9_whyNot_55 : decode cX9_whyNot 55 = .ok (.ireturn, 1) := by decide +kernel
theorem dX9_whyNot_56 : decode cX9_whyNot 56 = .ok (.aload_n 0, 1) := by decide +kernel
theorem dX9_whyNot_57 : decode cX9_whyNot 57 = .ok (.iload_n 1, 1) := by decide +kernel
theorem dX9_whyNot_58 : decode cX9_whyNot 58 = .ok (.iload_n 2, 1) := by decide +kernel
theorem dX9_whyNot_59 : decode cX9_whyNot 59 = .ok (.iload_n 3, 1) := by decide +kernel
theorem dX9_whyNot_60 : decode cX9_whyNot 60 = .ok (.invokevirtual 144, 3) := by decide +kernel
theorem dX9_whyNot_63 : decode cX9_whyNot 63 = .ok (.ifCond .ne 5, 3) := by decide +kernel
theorem dX9_whyNot_66 : decode cX9_whyNot 66 = .ok (.iconst 4, 1) := by decide +kernel
theorem dX9_whyNot_67 : decode cX9_whyNot 67 = .ok (.ireturn, 1) := by decide +kernel
theorem dX9_whyNot_68 : decode cX9_whyNot 68 = .ok (.aload_n 0, 1) := by decide +kernel
theorem dX9_whyNot_69 : decode cX9_whyNot 69 = .ok (.aload_n 0, 1) := by decide +kernel
theorem dX9_whyNot_70 : decode cX9_whyNot 70 = .ok (.getfield 68, 3) := by decide +kernel
theorem dX9_whyNot_73 : decode cX9_whyNot 73 = .ok (.iload_n 1, 1) := by decide +kernel
theorem dX9_whyNot_74 : decode cX9_whyNot 74 = .ok (.iload_n 2, 1) := by decide +kernel
theorem dX9_whyNot_75 : decode cX9_whyNot 75 = .ok (.iload_n 3, 1) := by decide +kernel
theorem dX9_whyNot_76 : decode cX9_whyNot 76 = .ok (.invokevirtual 186, 3) := by decide +kernel
theorem dX9_whyNot_79 : decode cX9_whyNot 79 = .ok (.aload_n 0, 1) := by decide +kernel
theorem dX9_whyNot_80 : decode cX9_whyNot 80 = .ok (.getfield 68, 3) := by decide +kernel
theorem dX9_whyNot_83 : decode cX9_whyNot 83 = .ok (.invokevirtual 200, 3) := by decide +kernel
theorem dX9_whyNot_86 : decode cX9_whyNot 86 = .ok (.ifCond .eq 7, 3) := by decide +kernel
theorem dX9_whyNot_89 : decode cX9_whyNot 89 = .ok (.iconst 5, 1) := by decide +kernel
theorem dX9_whyNot_90 : decode cX9_whyNot 90 = .ok (.goto 4, 3) := by decide +kernel
theorem dX9_whyNot_93 : decode cX9_whyNot 93 = .ok (.iconst 0, 1) := by decide +kernel
theorem dX9_whyNot_94 : decode cX9_whyNot 94 = .ok (.ireturn, 1) := by decide +kernel
theorem dX9_firstWrong_0 : decode cX9_firstWrong 0 = .ok (.iconst 3, 1) := by decide +kernel
theorem dX9_firstWrong_1 : decode cX9_firstWrong 1 = .ok (.aload_n 0, 1) := by decide +kernel
theorem dX9_firstWrong_2 : decode cX9_firstWrong 2 = .ok (.getfield 26, 3) := by decide +kernel
theorem dX9_firstWrong_5 : decode cX9_firstWrong 5 = .ok (.invokevirtual 159, 3) := by decide +kernel
theorem dX9_firstWrong_8 : decode cX9_firstWrong 8 = .ok (.imul, 1) := by decide +kernel
theorem dX9_firstWrong_9 : decode cX9_firstWrong 9 = .ok (.istore_n 2, 1) := by decide +kernel
theorem dX9_firstWrong_10 : decode cX9_firstWrong 10 = .ok (.iload_n 1, 1) := by decide +kernel
theorem dX9_firstWrong_11 : decode cX9_firstWrong 11 = .ok (.iload_n 2, 1) := by decide +kernel
theorem dX9_firstWrong_12 : decode cX9_firstWrong 12 = .ok (.invokestatic 316, 3) := by decide +kernel
theorem dX9_firstWrong_15 : decode cX9_firstWrong 15 = .ok (.istore_n 3, 1) := by decide +kernel
theorem dX9_firstWrong_16 : decode cX9_firstWrong 16 = .ok (.iconst 0, 1) := by decide +kernel
theorem dX9_firstWrong_17 : decode cX9_firstWrong 17 = .ok (.istore 4, 2) := by decide +kernel
theorem dX9_firstWrong_19 : decode cX9_firstWrong 19 = .ok (.iload 4, 2) := by decide +kernel
theorem dX9_firstWrong_21 : decode cX9_firstWrong 21 = .ok (.iload_n 3, 1) := by decide +kernel
theorem dX9_firstWrong_22 : decode cX9_firstWrong 22 = .ok (.if_icmp .ge 33, 3) := by decide +kernel
theorem dX9_firstWrong_25 : decode cX9_firstWrong 25 = .ok (.aload_n 0, 1) := by decide +kernel
theorem dX9_firstWrong_26 : decode cX9_firstWrong 26 = .ok (.getfield 10, 3) := by decide +kernel
theorem dX9_firstWrong_29 : decode cX9_firstWrong 29 = .ok (.iload 4, 2) := by decide +kernel
theorem dX9_firstWrong_31 : decode cX9_firstWrong 31 = .ok (.invokevirtual 336, 3) := by decide +kernel
theorem dX9_firstWrong_34 : decode cX9_firstWrong 34 = .ok (.aload_n 0, 1) := by decide +kernel
theorem dX9_firstWrong_35 : decode cX9_firstWrong 35 = .ok (.getfield 26, 3) := by decide +kernel
theorem dX9_firstWrong_38 : decode cX9_firstWrong 38 = .ok (.iload 4, 2) := by decide +kernel
theorem dX9_firstWrong_40 : decode cX9_firstWrong 40 = .ok (.invokevirtual 339, 3) := by decide +kernel
theorem dX9_firstWrong_43 : decode cX9_firstWrong 43 = .ok (.if_icmp .eq 6, 3) := by decide +kernel
theorem dX9_firstWrong_46 : decode cX9_firstWrong 46 = .ok (.iload 4, 2) := by decide +kernel
theorem dX9_firstWrong_48 : decode cX9_firstWrong 48 = .ok (.ireturn, 1) := by decide +kernel
theorem dX9_firstWrong_49 : decode cX9_firstWrong 49 = .ok (.iinc 4 1, 3) := by decide +kernel
theorem dX9_firstWrong_52 : decode cX9_firstWrong 52 = .ok (.goto (-33), 3) := by decide +kernel
theorem dX9_firstWrong_55 : decode cX9_firstWrong 55 = .ok (.iload_n 1, 1) := by decide +kernel
theorem dX9_firstWrong_56 : decode cX9_firstWrong 56 = .ok (.iload_n 2, 1) := by decide +kernel
theorem dX9_firstWrong_57 : decode cX9_firstWrong 57 = .ok (.if_icmp .ne 7, 3) := by decide +kernel
theorem dX9_firstWrong_60 : decode cX9_firstWrong 60 = .ok (.iconst (-1), 1) := by decide +kernel
theorem dX9_firstWrong_61 : decode cX9_firstWrong 61 = .ok (.goto 4, 3) := by decide +kernel
theorem dX9_firstWrong_64 : decode cX9_firstWrong 64 = .ok (.iload_n 3, 1) := by decide +kernel
theorem dX9_firstWrong_65 : decode cX9_firstWrong 65 = .ok (.ireturn, 1) := by decide +kernel
theorem dX10_init_0 : decode cX10_init 0 = .ok (.aload_n 0, 1) := by decide +kernel
theorem dX10_init_1 : decode cX10_init 1 = .ok (.invokespecial 1, 3) := by decide +kernel
theorem dX10_init_4 : decode cX10_init 4 = .ok (.aload_n 0, 1) := by decide +kernel
theorem dX10_init_5 : decode cX10_init 5 = .ok (.sipush 220, 3) := by decide +kernel
theorem dX10_init_8 : decode cX10_init 8 = .ok (.newarray .byte, 2) := by decide +kernel
theorem dX10_init_10 : decode cX10_init 10 = .ok (.putfield 7, 3) := by decide +kernel
theorem dX10_init_13 : decode cX10_init 13 = .ok (.aload_n 0, 1) := by decide +kernel
theorem dX10_init_14 : decode cX10_init 14 = .ok (.iconst 1, 1) := by decide +kernel
theorem dX10_init_15 : decode cX10_init 15 = .ok (.putfield 13, 3) := by decide +kernel
theorem dX10_init_18 : decode cX10_init 18 = .ok (.aload_n 0, 1) := by decide +kernel
theorem dX10_init_19 : decode cX10_init 19 = .ok (.iconst 1, 1) := by decide +kernel
theorem dX10_init_20 : decode cX10_init 20 = .ok (.putfield 17, 3) := by decide +kernel
theorem dX10_init_23 : decode cX10_init 23 = .ok (.aload_n 0, 1) := by decide +kernel
theorem dX10_init_24 : decode cX10_init 24 = .ok (.iconst 5, 1) := by decide +kernel
theorem dX10_init_25 : decode cX10_init 25 = .ok (.newarray .int, 2) := by decide +kernel
theorem dX10_init_27 : decode cX10_init 27 = .ok (.putfield 20, 3) := by decide +kernel
theorem dX10_init_30 : decode cX10_init 30 = .ok (.aload_n 0, 1) := by decide +kernel
theorem dX10_init_31 : decode cX10_init 31 = .ok (.iconst 5, 1) := by decide +kernel
theorem dX10_init_32 : decode cX10_init 32 = .ok (.newarray .int, 2) := by decide +kernel
theorem dX10_init_34 : decode cX10_init 34 = .ok (.putfield 24, 3) := by decide +kernel
theorem dX10_init_37 : decode cX10_init 37 = .ok (.aload_n 0, 1) := by decide +kernel
theorem dX10_init_38 : decode cX10_init 38 = .ok (.bipush 100, 2) := by decide +kernel
theorem dX10_init_40 : decode cX10_init 40 = .ok (.newarray .int, 2) := by decide +kernel
theorem dX10_init_42 : decode cX10_init 42 = .ok (.putfield 27, 3) := by decide +kernel
theorem dX10_init_45 : decode cX10_init 45 = .ok (.aload_n 0, 1) := by decide +kernel
theorem dX10_init_46 : decode cX10_init 46 = .ok (.iconst 5, 1) := by decide +kernel
theorem dX10_init_47 : decode cX10_init 47 = .ok (.newarray .int, 2) := by decide +kernel
theorem dX10_init_49 : decode cX10_init 49 = .ok (.putfield 30, 3) := by decide +kernel
theorem dX10_init_52 : decode cX10_init 52 = .ok (.aload_n 0, 1) := by decide +kernel
theorem dX10_init_53 : decode cX10_init 53 = .ok (.bipush 14, 2) := by decide +kernel
theorem dX10_init_55 : decode cX10_init 55 = .ok (.newarray .int, 2) := by decide +kernel
theorem dX10_init_57 : decode cX10_init 57 = .ok (.putfield 33, 3) := by decide +kernel
theorem dX10_init_60 : decode cX10_init 60 = .ok (.aload_n 0, 1) := by decide +kernel
theorem dX10_init_61 : decode cX10_init 61 = .ok (.bipush 14, 2) := by decide +kernel
theorem dX10_init_63 : decode cX10_init 63 = .ok (.newarray .int, 2) := by decide +kernel
theorem dX10_init_65 : decode cX10_init 65 = .ok (.putfield 36, 3) := by decide +kernel
theorem dX10_init_68 : decode cX10_init 68 = .ok (.aload_n 0, 1) := by decide +kernel
theorem dX10_init_69 : decode cX10_init 69 = .ok (.bipush 14, 2) := by decide +kernel
theorem dX10_init_71 : decode cX10_init 71 = .ok (.newarray .int, 2) := by decide +kernel
theorem dX10_init_73 : decode cX10_init 73 = .ok (.putfield 39, 3) := by decide +kernel
theorem dX10_init_76 : decode cX10_init 76 = .ok (.aload_n 0, 1) := by decide +kernel
theorem dX10_init_77 : decode cX10_init 77 = .ok (.bipush 14, 2) := by decide +kernel
theorem dX10_init_79 : decode cX10_init 79 = .ok (.newarray .int, 2) := by decide +kernel
theorem dX10_init_81 : decode cX10_init 81 = .ok (.putfield 42, 3) := by decide +kernel
theorem dX10_init_84 : decode cX10_init 84 = .ok (.aload_n 0, 1) := by decide +kernel
theorem dX10_init_85 : decode cX10_init 85 = .ok (.sipush 200, 3) := by decide +kernel
theorem dX10_init_88 : decode cX10_init 88 = .ok (.newarray .int, 2) := by decide +kernel
theorem dX10_init_90 : decode cX10_init 90 = .ok (.putfield 45, 3) := by decide +kernel
theorem dX10_init_93 : decode cX10_init 93 = .ok (.aload_n 0, 1) := by decide +kernel
theorem dX10_init_94 : decode cX10_init 94 = .ok (.sipush 200, 3) := by decide +kernel
theorem dX10_init_97 : decode cX10_init 97 = .ok (.newarray .int, 2) := by decide +kernel
theorem dX10_init_99 : decode cX10_init 99 = .ok (.putfield 48, 3) := by decide +kernel
theorem dX10_init_102 : decode cX10_init 102 = .ok (.aload_n 0, 1) := by decide +kernel
theorem dX10_init_103 : decode cX10_init 103 = .ok (.bipush 14, 2) := by decide +kernel
theorem dX10_init_105 : decode cX10_init 105 = .ok (.newarray .int, 2) := by decide +kernel
theorem dX10_init_107 : decode cX10_init 107 = .ok (.putfield 51, 3) := by decide +kernel
theorem dX10_init_110 : decode cX10_init 110 = .ok (.aload_n 0, 1) := by decide +kernel
theorem dX10_init_111 : decode cX10_init 111 = .ok (.bipush 14, 2) := by decide +kernel
theorem dX10_init_113 : decode cX10_init 113 = .ok (.newarray .int, 2) := by decide +kernel
theorem dX10_init_115 : decode cX10_init 115 = .ok (.putfield 54, 3) := by decide +kernel
theorem dX10_init_118 : decode cX10_init 118 = .ok (.aload_n 0, 1) := by decide +kernel
theorem dX10_init_119 : decode cX10_init 119 = .ok (.bipush 14, 2) := by decide +kernel
theorem dX10_init_121 : decode cX10_init 121 = .ok (.newarray .int, 2) := by decide +kernel
theorem dX10_init_123 : decode cX10_init 123 = .ok (.putfield 57, 3) := by decide +kernel
theorem dX10_init_126 : decode cX10_init 126 = .ok (.aload_n 0, 1) := by decide +kernel
theorem dX10_init_127 : decode cX10_init 127 = .ok (.bipush 14, 2) := by decide +kernel
theorem dX10_init_129 : decode cX10_init 129 = .ok (.newarray .int, 2) := by decide +kernel
theorem dX10_init_131 : decode cX10_init 131 = .ok (.putfield 60, 3) := by decide +kernel
theorem dX10_init_134 : decode cX10_init 134 = .ok (.aload_n 0, 1) := by decide +kernel
theorem dX10_init_135 : decode cX10_init 135 = .ok (.sipush 200, 3) := by decide +kernel
theorem dX10_init_138 : decode cX10_init 138 = .ok (.newarray .int, 2) := by decide +kernel
theorem dX10_init_140 : decode cX10_init 140 = .ok (.putfield 63, 3) := by decide +kernel
theorem dX10_init_143 : decode cX10_init 143 = .ok (.aload_n 0, 1) := by decide +kernel
theorem dX10_init_144 : decode cX10_init 144 = .ok (.sipush 200, 3) := by decide +kernel
theorem dX10_init_147 : decode cX10_init 147 = .ok (.newarray .int, 2) := by decide +kernel
theorem dX10_init_149 : decode cX10_init 149 = .ok (.putfield 66, 3) := by decide +kernel
theorem dX10_init_152 : decode cX10_init 152 = .ok (.aload_n 0, 1) := by decide +kernel
theorem dX10_init_153 : decode cX10_init 153 = .ok (.sipush 240, 3) := by decide +kernel
theorem dX10_init_156 : decode cX10_init 156 = .ok (.newarray .int, 2) := by decide +kernel
theorem dX10_init_158 : decode cX10_init 158 = .ok (.putfield 69, 3) := by decide +kernel
theorem dX10_init_161 : decode cX10_init 161 = .ok (.aload_n 0, 1) := by decide +kernel
theorem dX10_init_162 : decode cX10_init 162 = .ok (.sipush 128, 3) := by decide +kernel
theorem dX10_init_165 : decode cX10_init 165 = .ok (.newarray .int, 2) := by decide +kernel
theorem dX10_init_167 : decode cX10_init 167 = .ok (.putfield 72, 3) := by decide +kernel
theorem dX10_init_170 : decode cX10_init 170 = .ok (.aload_n 0, 1) := by decide +kernel
theorem dX10_init_171 : decode cX10_init 171 = .ok (.sipush 240, 3) := by decide +kernel
theorem dX10_init_174 : decode cX10_init 174 = .ok (.newarray .int, 2) := by decide +kernel
theorem dX10_init_176 : decode cX10_init 176 = .ok (.putfield 75, 3) := by decide +kernel
theorem dX10_init_179 : decode cX10_init 179 = .ok (.aload_n 0, 1) := by decide +kernel
theorem dX10_init_180 : decode cX10_init 180 = .ok (.sipush 240, 3) := by decide +kernel
theorem dX10_init_183 : decode cX10_init 183 = .ok (.newarray .boolean, 2) := by decide +kernel
theorem dX10_init_185 : decode cX10_init 185 = .ok (.putfield 78, 3) := by decide +kernel
theorem dX10_init_188 : decode cX10_init 188 = .ok (.aload_n 0, 1) := by decide +kernel
theorem dX10_init_189 : decode cX10_init 189 = .ok (.ldc 82, 2) := by decide +kernel
theorem dX10_init_191 : decode cX10_init 191 = .ok (.newarray .boolean, 2) := by decide +kernel
theorem dX10_init_193 : decode cX10_init 193 = .ok (.putfield 83, 3) := by decide +kernel
theorem dX10_init_196 : decode cX10_init 196 = .ok (.aload_n 0, 1) := by decide +kernel
theorem dX10_init_197 : decode cX10_init 197 = .ok (.sipush 1024, 3) := by decide +kernel
theorem dX10_init_200 : decode cX10_init 200 = .ok (.newarray .boolean, 2) := by decide +kernel
theorem dX10_init_202 : decode cX10_init 202 = .ok (.putfield 86, 3) := by decide +kernel
theorem dX10_init_205 : decode cX10_init 205 = .ok (.aload_n 0, 1) := by decide +kernel
theorem dX10_init_206 : decode cX10_init 206 = .ok (.bipush 40, 2) := by decide +kernel
theorem dX10_init_208 : decode cX10_init 208 = .ok (.newarray .int, 2) := by decide +kernel
theorem dX10_init_210 : decode cX10_init 210 = .ok (.putfield 89, 3) := by decide +kernel
theorem dX10_init_213 : decode cX10_init 213 = .ok (.aload_n 0, 1) := by decide +kernel
theorem dX10_init_214 : decode cX10_init 214 = .ok (.bipush 40, 2) := by decide +kernel
theorem dX10_init_216 : decode cX10_init 216 = .ok (.newarray .int, 2) := by decide +kernel
theorem dX10_init_218 : decode cX10_init 218 = .ok (.putfield 92, 3) := by decide +kernel
theorem dX10_init_221 : decode cX10_init 221 = .ok (.aload_n 0, 1) := by decide +kernel
theorem dX10_init_222 : decode cX10_init 222 = .ok (.bipush 40, 2) := by decide +kernel
theorem dX10_init_224 : decode cX10_init 224 = .ok (.newarray .int, 2) := by decide +kernel
theorem dX10_init_226 : decode cX10_init 226 = .ok (.putfield 95, 3) := by decide +kernel
theorem dX10_init_229 : decode cX10_init 229 = .ok (.aload_n 0, 1) := by decide +kernel
theorem dX10_init_230 : decode cX10_init 230 = .ok (.bipush 40, 2) := by decide +kernel
theorem dX10_init_232 : decode cX10_init 232 = .ok (.newarray .int, 2) := by decide +kernel
theorem dX10_init_234 : decode cX10_init 234 = .ok (.putfield 98, 3) := by decide +kernel
theorem dX10_init_237 : decode cX10_init 237 = .ok (.aload_n 0, 1) := by decide +kernel
theorem dX10_init_238 : decode cX10_init 238 = .ok (.ldc 101, 2) := by decide +kernel
theorem dX10_init_240 : decode cX10_init 240 = .ok (.newarray .int, 2) := by decide +kernel
theorem dX10_init_242 : decode cX10_init 242 = .ok (.putfield 102, 3) := by decide +kernel
theorem dX10_init_245 : decode cX10_init 245 = .ok (.aload_n 0, 1) := by decide +kernel
theorem dX10_init_246 : decode cX10_init 246 = .ok (.ldc 101, 2) := by decide +kernel
theorem dX10_init_248 : decode cX10_init 248 = .ok (.newarray .int, 2) := by decide +kernel
theorem dX10_init_250 : decode cX10_init 250 = .ok (.putfield 105, 3) := by decide +kernel
theorem dX10_init_253 : decode cX10_init 253 = .ok (.aload_n 0, 1) := by decide +kernel
theorem dX10_init_254 : decode cX10_init 254 = .ok (.ldc 101, 2) := by decide +kernel
theorem dX10_init_256 : decode cX10_init 256 = .ok (.newarray .int, 2) := by decide +kernel
theorem dX10_init_258 : decode cX10_init 258 = .ok (.putfield 108, 3) := by decide +kernel
theorem dX10_init_261 : decode cX10_init 261 = .ok (.aload_n 0, 1) := by decide +kernel
theorem dX10_init_262 : decode cX10_init 262 = .ok (.sipush 2048, 3) := by decide +kernel
theorem dX10_init_265 : decode cX10_init 265 = .ok (.newarray .boolean, 2) := by decide +kernel
theorem dX10_init_267 : decode cX10_init 267 = .ok (.putfield 111, 3) := by decide +kernel
theorem dX10_init_270 : decode cX10_init 270 = .ok (.aload_n 0, 1) := by decide +kernel
theorem dX10_init_271 : decode cX10_init 271 = .ok (.invokevirtual 114, 3) := by decide +kernel
theorem dX10_init_274 : decode cX10_init 274 = .ok (.return_, 1) := by decide +kernel
theorem dX10_lies_0 : decode cX10_lies 0 = .ok (.lload_n 0, 1) := by decide +kernel
theorem dX10_lies_1 : decode cX10_lies 1 = .ok (.lload_n 2, 1) := by decide +kernel
theorem dX10_lies_2 : decode cX10_lies 2 = .ok (.lcmp, 1) := by decide +kernel
theorem dX10_lies_3 : decode cX10_lies 3 = .ok (.ifCond .lt 14, 3) := by decide +kernel
theorem dX10_lies_6 : decode cX10_lies 6 = .ok (.lload_n 0, 1) := by decide +kernel
theorem dX10_lies_7 : decode cX10_lies 7 = .ok (.lload 4, 2) := by decide +kernel
theorem dX10_lies_9 : decode cX10_lies 9 = .ok (.lcmp, 1) := by decide +kernel
theorem dX10_lies_10 : decode cX10_lies 10 = .ok (.ifCond .gt 7, 3) := by decide +kernel
theorem dX10_lies_13 : decode cX10_lies 13 = .ok (.iconst 1, 1) := by decide +kernel
theorem dX10_lies_14 : decode cX10_lies 14 = .ok (.goto 4, 3) := by decide +kernel
theorem dX10_lies_17 : decode cX10_lies 17 = .ok (.iconst 0, 1) := by decide +kernel
theorem dX10_lies_18 : decode cX10_lies 18 = .ok (.ireturn, 1) := by decide +kernel
theorem dX10_has_0 : decode cX10_has 0 = .ok (.iload_n 0, 1) := by decide +kernel
theorem dX10_has_1 : decode cX10_has 1 = .ok (.iload_n 1, 1) := by decide +kernel
theorem dX10_has_2 : decode cX10_has 2 = .ok (.ishr, 1) := by decide +kernel
theorem dX10_has_3 : decode cX10_has 3 = .ok (.iconst 1, 1) := by decide +kernel
theorem dX10_has_4 : decode cX10_has 4 = .ok (.iand, 1) := by decide +kernel
theorem dX10_has_5 : decode cX10_has 5 = .ok (.iconst 1, 1) := by decide +kernel
theorem dX10_has_6 : decode cX10_has 6 = .ok (.if_icmp .ne 7, 3) := by decide +kernel
theorem dX10_has_9 : decode cX10_has 9 = .ok (.iconst 1, 1) := by decide +kernel
theorem dX10_has_10 : decode cX10_has 10 = .ok (.goto 4, 3) := by decide +kernel
theorem dX10_has_13 : decode cX10_has 13 = .ok (.iconst 0, 1) := by decide +kernel
theorem dX10_has_14 : decode cX10_has 14 = .ok (.ireturn, 1) := by decide +kernel
theorem dX10_sizeOf_0 : decode cX10_sizeOf 0 = .ok (.iconst 0, 1) := by decide +kernel
theorem dX10_sizeOf_1 : decode cX10_sizeOf 1 = .ok (.istore_n 1, 1) := by decide +kernel
theorem dX10_sizeOf_2 : decode cX10_sizeOf 2 = .ok (.iload_n 0, 1) := by decide +kernel
theorem dX10_sizeOf_3 : decode cX10_sizeOf 3 = .ok (.istore_n 2, 1) := by decide +kernel
theorem dX10_sizeOf_4 : decode cX10_sizeOf 4 = .ok (.iload_n 2, 1) := by decide +kernel
theorem dX10_sizeOf_5 : decode cX10_sizeOf 5 = .ok (.ifCond .eq 15, 3) := by decide +kernel
theorem dX10_sizeOf_8 : decode cX10_sizeOf 8 = .ok (.iinc 1 1, 3) := by decide +kernel
theorem dX10_sizeOf_11 : decode cX10_sizeOf 11 = .ok (.iload_n 2, 1) := by decide +kernel
theorem dX10_sizeOf_12 : decode cX10_sizeOf 12 = .ok (.iload_n 2, 1) := by decide +kernel
theorem dX10_sizeOf_13 : decode cX10_sizeOf 13 = .ok (.iconst 1, 1) := by decide +kernel
theorem dX10_sizeOf_14 : decode cX10_sizeOf 14 = .ok (.isub, 1) := by decide +kernel
theorem dX10_sizeOf_15 : decode cX10_sizeOf 15 = .ok (.iand, 1) := by decide +kernel
theorem dX10_sizeOf_16 : decode cX10_sizeOf 16 = .ok (.istore_n 2, 1) := by decide +kernel
theorem dX10_sizeOf_17 : decode cX10_sizeOf 17 = .ok (.goto (-13), 3) := by decide +kernel
theorem dX10_sizeOf_20 : decode cX10_sizeOf 20 = .ok (.iload_n 1, 1) := by decide +kernel
theorem dX10_sizeOf_21 : decode cX10_sizeOf 21 = .ok (.ireturn, 1) := by decide +kernel
theorem dX10_isPerson_0 : decode cX10_isPerson 0 = .ok (.iload_n 1, 1) := by decide +kernel
theorem dX10_isPerson_1 : decode cX10_isPerson 1 = .ok (.i2l, 1) := by decide +kernel
theorem dX10_isPerson_2 : decode cX10_isPerson 2 = .ok (.lconst 0, 1) := by decide +kernel
theorem dX10_isPerson_3 : decode cX10_isPerson 3 = .ok (.aload_n 0, 1) := by decide +kernel
theorem dX10_isPerson_4 : decode cX10_isPerson 4 = .ok (.getfield 117, 3) := by decide +kernel
theorem dX10_isPerson_7 : decode cX10_isPerson 7 = .ok (.iconst 1, 1) := by decide +kernel
theorem dX10_isPerson_8 : decode cX10_isPerson 8 = .ok (.isub, 1) := by decide +kernel
theorem dX10_isPerson_9 : decode cX10_isPerson 9 = .ok (.i2l, 1) := by decide +kernel
theorem dX10_isPerson_10 : decode cX10_isPerson 10 = .ok (.invokestatic 120, 3) := by decide +kernel
theorem dX10_isPerson_13 : decode cX10_isPerson 13 = .ok (.ireturn, 1) := by decide +kernel
theorem dX10_isFact_0 : decode cX10_isFact 0 = .ok (.iload_n 1, 1) := by decide +kernel
theorem dX10_isFact_1 : decode cX10_isFact 1 = .ok (.i2l, 1) := by decide +kernel
theorem dX10_isFact_2 : decode cX10_isFact 2 = .ok (.lconst 0, 1) := by decide +kernel
theorem dX10_isFact_3 : decode cX10_isFact 3 = .ok (.aload_n 0, 1) := by decide +kernel
theorem dX10_isFact_4 : decode cX10_isFact 4 = .ok (.getfield 13, 3) := by decide +kernel
theorem dX10_isFact_7 : decode cX10_isFact 7 = .ok (.iconst 1, 1) := by decide +kernel
theorem dX10_isFact_8 : decode cX10_isFact 8 = .ok (.isub, 1) := by decide +kernel
theorem dX10_isFact_9 : decode cX10_isFact 9 = .ok (.i2l, 1) := by decide +kernel
theorem dX10_isFact_10 : decode cX10_isFact 10 = .ok (.invokestatic 120, 3) := by decide +kernel
theorem dX10_isFact_13 : decode cX10_isFact 13 = .ok (.ireturn, 1) := by decide +kernel
theorem dX10_worldMany_0 : decode cX10_worldMany 0 = .ok (.iconst 1, 1) := by decide +kernel
theorem dX10_worldMany_1 : decode cX10_worldMany 1 = .ok (.aload_n 0, 1) := by decide +kernel
theorem dX10_worldMany_2 : decode cX10_worldMany 2 = .ok (.getfield 13, 3) := by decide +kernel
theorem dX10_worldMany_5 : decode cX10_worldMany 5 = .ok (.ishl, 1) := by decide +kernel
theorem dX10_worldMany_6 : decode cX10_worldMany 6 = .ok (.ireturn, 1) := by decide +kernel
theorem dX10_here_0 : decode cX10_here 0 = .ok (.aload_n 0, 1) := by decide +kernel
theorem dX10_here_1 : decode cX10_here 1 = .ok (.getfield 124, 3) := by decide +kernel
theorem dX10_here_4 : decode cX10_here 4 = .ok (.aload_n 0, 1) := by decide +kernel
theorem dX10_here_5 : decode cX10_here 5 = .ok (.getfield 127, 3) := by decide +kernel
theorem dX10_here_8 : decode cX10_here 8 = .ok (.if_icmp .ge 19, 3) := by decide +kernel
theorem dX10_here_11 : decode cX10_here 11 = .ok (.aload_n 0, 1) := by decide +kernel
theorem dX10_here_12 : decode cX10_here 12 = .ok (.getfield 7, 3) := by decide +kernel
theorem dX10_here_15 : decode cX10_here 15 = .ok (.aload_n 0, 1) := by decide +kernel
theorem dX10_here_16 : decode cX10_here 16 = .ok (.getfield 124, 3) := by decide +kernel
theorem dX10_here_19 : decode cX10_here 19 = .ok (.baload, 1) := by decide +kernel
theorem dX10_here_20 : decode cX10_here 20 = .ok (.sipush 255, 3) := by decide +kernel
theorem dX10_here_23 : decode cX10_here 23 = .ok (.iand, 1) := by decide +kernel
theorem dX10_here_24 : decode cX10_here 24 = .ok (.goto 4, 3) := by decide +kernel
theorem dX10_here_27 : decode cX10_here 27 = .ok (.iconst 0, 1) := by decide +kernel
theorem dX10_here_28 : decode cX10_here 28 = .ok (.ireturn, 1) := by decide +kernel
theorem dX10_wrongs_0 : decode cX10_wrongs 0 = .ok (.aload_n 0, 1) := by decide +kernel
theorem dX10_wrongs_1 : decode cX10_wrongs 1 = .ok (.aload_n 0, 1) := by decide +kernel
theorem dX10_wrongs_2 : decode cX10_wrongs 2 = .ok (.getfield 130, 3) := by decide +kernel
theorem dX10_wrongs_5 : decode cX10_wrongs 5 = .ok (.ifCond .ge 10, 3) := by decide +kernel
theorem dX10_wrongs_8 : decode cX10_wrongs 8 = .ok (.aload_n 0, 1) := by decide +kernel
theorem dX10_wrongs_9 : decode cX10_wrongs 9 = .ok (.getfield 130, 3) := by decide +kernel
theorem dX10_wrongs_12 : decode cX10_wrongs 12 = .ok (.goto 10, 3) := by decide +kernel
theorem dX10_wrongs_15 : decode cX10_wrongs 15 = .ok (.sipush (-1000), 3) := by decide +kernel
theorem dX10_wrongs_18 : decode cX10_wrongs 18 = .ok (.iload_n 1, 1) := by decide +kernel
theorem dX10_wrongs_19 : decode cX10_wrongs 19 = .ok (.imul, 1) := by decide +kernel
theorem dX10_wrongs_20 : decode cX10_wrongs 20 = .ok (.iload_n 2, 1) := by decide +kernel
theorem dX10_wrongs_21 : decode cX10_wrongs 21 = .ok (.isub, 1) := by decide +kernel
theorem dX10_wrongs_22 : decode cX10_wrongs 22 = .ok (.putfield 130, 3) := by decide +kernel
theorem dX10_wrongs_25 : decode cX10_wrongs 25 = .ok (.return_, 1) := by decide +kernel
theorem dX10_isGood_0 : decode cX10_isGood 0 = .ok (.aload_n 0, 1) := by decide +kernel
theorem dX10_isGood_1 : decode cX10_isGood 1 = .ok (.getfield 130, 3) := by decide +kernel
theorem dX10_isGood_4 : decode cX10_isGood 4 = .ok (.ifCond .ne 7, 3) := by decide +kernel
theorem dX10_isGood_7 : decode cX10_isGood 7 = .ok (.iconst 1, 1) := by decide +kernel
theorem dX10_isGood_8 : decode cX10_isGood 8 = .ok (.goto 4, 3) := by decide +kernel
theorem dX10_isGood_11 : decode cX10_isGood 11 = .ok (.iconst 0, 1) := by decide +kernel
theorem dX10_isGood_12 : decode cX10_isGood 12 = .ok (.ireturn, 1) := by decide +kernel
theorem dX10_emit_0 : decode cX10_emit 0 = .ok (.aload_n 0, 1) := by decide +kernel
theorem dX10_emit_1 : decode cX10_emit 1 = .ok (.invokevirtual 133, 3) := by decide +kernel
theorem dX10_emit_4 : decode cX10_emit 4 = .ok (.ifCond .ne 4, 3) := by decide +kernel
theorem dX10_emit_7 : decode cX10_emit 7 = .ok (.return_, 1) := by decide +kernel
theorem dX10_emit_8 : decode cX10_emit 8 = .ok (.aload_n 0, 1) := by decide +kernel
theorem dX10_emit_9 : decode cX10_emit 9 = .ok (.getfield 63, 3) := by decide +kernel
theorem dX10_emit_12 : decode cX10_emit 12 = .ok (.aload_n 0, 1) := by decide +kernel
theorem dX10_emit_13 : decode cX10_emit 13 = .ok (.getfield 137, 3) := by decide +kernel
theorem dX10_emit_16 : decode cX10_emit 16 = .ok (.iload_n 1, 1) := by decide +kernel
theorem dX10_emit_17 : decode cX10_emit 17 = .ok (.iastore, 1) := by decide +kernel
theorem dX10_emit_18 : decode cX10_emit 18 = .ok (.aload_n 0, 1) := by decide +kernel
theorem dX10_emit_19 : decode cX10_emit 19 = .ok (.getfield 66, 3) := by decide +kernel
theorem dX10_emit_22 : decode cX10_emit 22 = .ok (.aload_n 0, 1) := by decide +kernel
theorem dX10_emit_23 : decode cX10_emit 23 = .ok (.getfield 137, 3) := by decide +kernel
theorem dX10_emit_26 : decode cX10_emit 26 = .ok (.iload_n 2, 1) := by decide +kernel
theorem dX10_emit_27 : decode cX10_emit 27 = .ok (.iastore, 1) := by decide +kernel
theorem dX10_emit_28 : decode cX10_emit 28 = .ok (.aload_n 0, 1) := by decide +kernel
theorem dX10_emit_29 : decode cX10_emit 29 = .ok (.dup, 1) := by decide +kernel
theorem dX10_emit_30 : decode cX10_emit 30 = .ok (.getfield 137, 3) := by decide +kernel
theorem dX10_emit_33 : decode cX10_emit 33 = .ok (.iconst 1, 1) := by decide +kernel
theorem dX10_emit_34 : decode cX10_emit 34 = .ok (.iadd, 1) := by decide +kernel
theorem dX10_emit_35 : decode cX10_emit 35 = .ok (.putfield 137, 3) := by decide +kernel
theorem dX10_emit_38 : decode cX10_emit 38 = .ok (.return_, 1) := by decide +kernel
theorem dX10_top_0 : decode cX10_top 0 = .ok (.aload_n 0, 1) := by decide +kernel
theorem dX10_top_1 : decode cX10_top 1 = .ok (.getfield 140, 3) := by decide +kernel
theorem dX10_top_4 : decode cX10_top 4 = .ok (.ifCond .le 17, 3) := by decide +kernel
theorem dX10_top_7 : decode cX10_top 7 = .ok (.aload_n 0, 1) := by decide +kernel
theorem dX10_top_8 : decode cX10_top 8 = .ok (.getfield 69, 3) := by decide +kernel
theorem dX10_top_11 : decode cX10_top 11 = .ok (.aload_n 0, 1) := by decide +kernel
theorem dX10_top_12 : decode cX10_top 12 = .ok (.getfield 140, 3) := by decide +kernel
theorem dX10_top_15 : decode cX10_top 15 = .ok (.iconst 1, 1) := by decide +kernel
theorem dX10_top_16 : decode cX10_top 16 = .ok (.isub, 1) := by decide +kernel
theorem dX10_top_17 : decode cX10_top 17 = .ok (.iaload, 1) := by decide +kernel
theorem dX10_top_18 : decode cX10_top 18 = .ok (.goto 4, 3) := by decide +kernel
theorem dX10_top_21 : decode cX10_top 21 = .ok (.iconst 0, 1) := by decide +kernel
theorem dX10_top_22 : decode cX10_top 22 = .ok (.ireturn, 1) := by decide +kernel
theorem dX10_puts_0 : decode cX10_puts 0 = .ok (.aload_n 0, 1) := by decide +kernel
theorem dX10_puts_1 : decode cX10_puts 1 = .ok (.getfield 69, 3) := by decide +kernel
theorem dX10_puts_4 : decode cX10_puts 4 = .ok (.aload_n 0, 1) := by decide +kernel
theorem dX10_puts_5 : decode cX10_puts 5 = .ok (.getfield 140, 3) := by decide +kernel
theorem dX10_puts_8 : decode cX10_puts 8 = .ok (.iload_n 1, 1) := by decide +kernel
theorem dX10_puts_9 : decode cX10_puts 9 = .ok (.iastore, 1) := by decide +kernel
theorem dX10_puts_10 : decode cX10_puts 10 = .ok (.aload_n 0, 1) := by decide +kernel
theorem dX10_puts_11 : decode cX10_puts 11 = .ok (.dup, 1) := by decide +kernel
theorem dX10_puts_12 : decode cX10_puts 12 = .ok (.getfield 140, 3) := by decide +kernel
theorem dX10_puts_15 : decode cX10_puts 15 = .ok (.iconst 1, 1) := by decide +kernel
theorem dX10_puts_16 : decode cX10_puts 16 = .ok (.iadd, 1) := by decide +kernel
theorem dX10_puts_17 : decode cX10_puts 17 = .ok (.putfield 140, 3) := by decide +kernel
theorem dX10_puts_20 : decode cX10_puts 20 = .ok (.aload_n 0, 1) := by decide +kernel
theorem dX10_puts_21 : decode cX10_puts 21 = .ok (.dup, 1) := by decide +kernel
theorem dX10_puts_22 : decode cX10_puts 22 = .ok (.getfield 124, 3) := by decide +kernel
theorem dX10_puts_25 : decode cX10_puts 25 = .ok (.iconst 1, 1) := by decide +kernel
theorem dX10_puts_26 : decode cX10_puts 26 = .ok (.iadd, 1) := by decide +kernel
theorem dX10_puts_27 : decode cX10_puts 27 = .ok (.putfield 124, 3) := by decide +kernel
theorem dX10_puts_30 : decode cX10_puts 30 = .ok (.return_, 1) := by decide +kernel
theorem dX10_opens_0 : decode cX10_opens 0 = .ok (.aload_n 0, 1) := by decide +kernel
theorem dX10_opens_1 : decode cX10_opens 1 = .ok (.getfield 143, 3) := by decide +kernel
theorem dX10_opens_4 : decode cX10_opens 4 = .ok (.bipush 6, 2) := by decide +kernel
theorem dX10_opens_6 : decode cX10_opens 6 = .ok (.if_icmp .ne 12, 3) := by decide +kernel
theorem dX10_opens_9 : decode cX10_opens 9 = .ok (.aload_n 0, 1) := by decide +kernel
theorem dX10_opens_10 : decode cX10_opens 10 = .ok (.iconst 5, 1) := by decide +kernel
theorem dX10_opens_11 : decode cX10_opens 11 = .ok (.aload_n 0, 1) := by decide +kernel
theorem dX10_opens_12 : decode cX10_opens 12 = .ok (.getfield 124, 3) := by decide +kernel
theorem dX10_opens_15 : decode cX10_opens 15 = .ok (.invokevirtual 146, 3) := by decide +kernel
theorem dX10_opens_18 : decode cX10_opens 18 = .ok (.aload_n 0, 1) := by decide +kernel
theorem dX10_opens_19 : decode cX10_opens 19 = .ok (.dup, 1) := by decide +kernel
theorem dX10_opens_20 : decode cX10_opens 20 = .ok (.getfield 143, 3) := by decide +kernel
theorem dX10_opens_23 : decode cX10_opens 23 = .ok (.iconst 1, 1) := by decide +kernel
theorem dX10_opens_24 : decode cX10_opens 24 = .ok (.iadd, 1) := by decide +kernel
theorem dX10_opens_25 : decode cX10_opens 25 = .ok (.putfield 143, 3) := by decide +kernel
theorem dX10_opens_28 : decode cX10_opens 28 = .ok (.aload_n 0, 1) := by decide +kernel
theorem dX10_opens_29 : decode cX10_opens 29 = .ok (.aload_n 0, 1) := by decide +kernel
theorem dX10_opens_30 : decode cX10_opens 30 = .ok (.invokevirtual 150, 3) := by decide +kernel
theorem dX10_opens_33 : decode cX10_opens 33 = .ok (.invokevirtual 154, 3) := by decide +kernel
theorem dX10_opens_36 : decode cX10_opens 36 = .ok (.return_, 1) := by decide +kernel
theorem dX10_seesDigit_0 : decode cX10_seesDigit 0 = .ok (.aload_n 0, 1) := by decide +kernel
theorem dX10_seesDigit_1 : decode cX10_seesDigit 1 = .ok (.invokevirtual 150, 3) := by decide +kernel
theorem dX10_seesDigit_4 : decode cX10_seesDigit 4 = .ok (.i2l, 1) := by decide +kernel
theorem dX10_seesDigit_5 : decode cX10_seesDigit 5 = .ok (.ldc2_w 158, 3) := by decide +kernel
theorem dX10_seesDigit_8 : decode cX10_seesDigit 8 = .ok (.ldc2_w 160, 3) := by decide +kernel
theorem dX10_seesDigit_11 : decode cX10_seesDigit 11 = .ok (.invokestatic 120, 3) := by decide +kernel
theorem dX10_seesDigit_14 : decode cX10_seesDigit 14 = .ok (.ireturn, 1) := by decide +kernel
theorem dX10_reads_0 : decode cX10_reads 0 = .ok (.aload_n 0, 1) := by decide +kernel
theorem dX10_reads_1 : decode cX10_reads 1 = .ok (.getfield 124, 3) := by decide +kernel
theorem dX10_reads_4 : decode cX10_reads 4 = .ok (.istore_n 1, 1) := by decide +kernel
theorem dX10_reads_5 : decode cX10_reads 5 = .ok (.iconst 0, 1) := by decide +kernel
theorem dX10_reads_6 : decode cX10_reads 6 = .ok (.istore_n 2, 1) := by decide +kernel
theorem dX10_reads_7 : decode cX10_reads 7 = .ok (.aload_n 0, 1) := by decide +kernel
theorem dX10_reads_8 : decode cX10_reads 8 = .ok (.invokevirtual 133, 3) := by decide +kernel
theorem dX10_reads_11 : decode cX10_reads 11 = .ok (.ifCond .eq 55, 3) := by decide +kernel
