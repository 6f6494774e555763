theorem dX10_reads_14 : decode cX10_reads 14 = .ok (.aload_n 0, 1) := by decide +kernel
theorem dX10_reads_15 : decode cX10_reads 15 = .ok (.invokevirtual 162, 3) := by decide +kernel
theorem dX10_reads_18 : decode cX10_reads 18 = .ok (.ifCond .eq 48, 3) := by decide +kernel
theorem dX10_reads_21 : decode cX10_reads 21 = .ok (.aload_n 0, 1) := by decide +kernel
theorem dX10_reads_22 : decode cX10_reads 22 = .ok (.getfield 124, 3) := by decide +kernel
theorem dX10_reads_25 : decode cX10_reads 25 = .ok (.iload_n 1, 1) := by decide +kernel
theorem dX10_reads_26 : decode cX10_reads 26 = .ok (.iconst 5, 1) := by decide +kernel
theorem dX10_reads_27 : decode cX10_reads 27 = .ok (.iadd, 1) := by decide +kernel
theorem dX10_reads_28 : decode cX10_reads 28 = .ok (.if_icmp .ne 12, 3) := by decide +kernel
theorem dX10_reads_31 : decode cX10_reads 31 = .ok (.aload_n 0, 1) := by decide +kernel
theorem dX10_reads_32 : decode cX10_reads 32 = .ok (.iconst 2, 1) := by decide +kernel
theorem dX10_reads_33 : decode cX10_reads 33 = .ok (.aload_n 0, 1) := by decide +kernel
theorem dX10_reads_34 : decode cX10_reads 34 = .ok (.getfield 124, 3) := by decide +kernel
theorem dX10_reads_37 : decode cX10_reads 37 = .ok (.invokevirtual 146, 3) := by decide +kernel
theorem dX10_reads_40 : decode cX10_reads 40 = .ok (.bipush 10, 2) := by decide +kernel
theorem dX10_reads_42 : decode cX10_reads 42 = .ok (.iload_n 2, 1) := by decide +kernel
theorem dX10_reads_43 : decode cX10_reads 43 = .ok (.imul, 1) := by decide +kernel
theorem dX10_reads_44 : decode cX10_reads 44 = .ok (.aload_n 0, 1) := by decide +kernel
theorem dX10_reads_45 : decode cX10_reads 45 = .ok (.invokevirtual 150, 3) := by decide +kernel
theorem dX10_reads_48 : decode cX10_reads 48 = .ok (.iadd, 1) := by decide +kernel
theorem dX10_reads_49 : decode cX10_reads 49 = .ok (.bipush 48, 2) := by decide +kernel
theorem dX10_reads_51 : decode cX10_reads 51 = .ok (.isub, 1) := by decide +kernel
theorem dX10_reads_52 : decode cX10_reads 52 = .ok (.istore_n 2, 1) := by decide +kernel
theorem dX10_reads_53 : decode cX10_reads 53 = .ok (.aload_n 0, 1) := by decide +kernel
theorem dX10_reads_54 : decode cX10_reads 54 = .ok (.dup, 1) := by decide +kernel
theorem dX10_reads_55 : decode cX10_reads 55 = .ok (.getfield 124, 3) := by decide +kernel
theorem dX10_reads_58 : decode cX10_reads 58 = .ok (.iconst 1, 1) := by decide +kernel
theorem dX10_reads_59 : decode cX10_reads 59 = .ok (.iadd, 1) := by decide +kernel
theorem dX10_reads_60 : decode cX10_reads 60 = .ok (.putfield 124, 3) := by decide +kernel
theorem dX10_reads_63 : decode cX10_reads 63 = .ok (.goto (-56), 3) := by decide +kernel
theorem dX10_reads_66 : decode cX10_reads 66 = .ok (.iload_n 2, 1) := by decide +kernel
theorem dX10_reads_67 : decode cX10_reads 67 = .ok (.ireturn, 1) := by decide +kernel
theorem dX10_isTimes_0 : decode cX10_isTimes 0 = .ok (.iload_n 0, 1) := by decide +kernel
theorem dX10_isTimes_1 : decode cX10_isTimes 1 = .ok (.bipush 42, 2) := by decide +kernel
theorem dX10_isTimes_3 : decode cX10_isTimes 3 = .ok (.if_icmp .eq 15, 3) := by decide +kernel
theorem dX10_isTimes_6 : decode cX10_isTimes 6 = .ok (.iload_n 0, 1) := by decide +kernel
theorem dX10_isTimes_7 : decode cX10_isTimes 7 = .ok (.bipush 47, 2) := by decide +kernel
theorem dX10_isTimes_9 : decode cX10_isTimes 9 = .ok (.if_icmp .eq 9, 3) := by decide +kernel
theorem dX10_isTimes_12 : decode cX10_isTimes 12 = .ok (.iload_n 0, 1) := by decide +kernel
theorem dX10_isTimes_13 : decode cX10_isTimes 13 = .ok (.bipush 37, 2) := by decide +kernel
theorem dX10_isTimes_15 : decode cX10_isTimes 15 = .ok (.if_icmp .ne 7, 3) := by decide +kernel
theorem dX10_isTimes_18 : decode cX10_isTimes 18 = .ok (.iconst 1, 1) := by decide +kernel
theorem dX10_isTimes_19 : decode cX10_isTimes 19 = .ok (.goto 4, 3) := by decide +kernel
theorem dX10_isTimes_22 : decode cX10_isTimes 22 = .ok (.iconst 0, 1) := by decide +kernel
theorem dX10_isTimes_23 : decode cX10_isTimes 23 = .ok (.ireturn, 1) := by decide +kernel
theorem dX10_isPlus_0 : decode cX10_isPlus 0 = .ok (.iload_n 0, 1) := by decide +kernel
theorem dX10_isPlus_1 : decode cX10_isPlus 1 = .ok (.bipush 43, 2) := by decide +kernel
theorem dX10_isPlus_3 : decode cX10_isPlus 3 = .ok (.if_icmp .eq 9, 3) := by decide +kernel
theorem dX10_isPlus_6 : decode cX10_isPlus 6 = .ok (.iload_n 0, 1) := by decide +kernel
theorem dX10_isPlus_7 : decode cX10_isPlus 7 = .ok (.bipush 45, 2) := by decide +kernel
theorem dX10_isPlus_9 : decode cX10_isPlus 9 = .ok (.if_icmp .ne 7, 3) := by decide +kernel
theorem dX10_isPlus_12 : decode cX10_isPlus 12 = .ok (.iconst 1, 1) := by decide +kernel
theorem dX10_isPlus_13 : decode cX10_isPlus 13 = .ok (.goto 4, 3) := by decide +kernel
theorem dX10_isPlus_16 : decode cX10_isPlus 16 = .ok (.iconst 0, 1) := by decide +kernel
theorem dX10_isPlus_17 : decode cX10_isPlus 17 = .ok (.ireturn, 1) := by decide +kernel
theorem dX10_isSign_0 : decode cX10_isSign 0 = .ok (.iload_n 0, 1) := by decide +kernel
theorem dX10_isSign_1 : decode cX10_isSign 1 = .ok (.bipush 60, 2) := by decide +kernel
theorem dX10_isSign_3 : decode cX10_isSign 3 = .ok (.if_icmp .eq 15, 3) := by decide +kernel
theorem dX10_isSign_6 : decode cX10_isSign 6 = .ok (.iload_n 0, 1) := by decide +kernel
theorem dX10_isSign_7 : decode cX10_isSign 7 = .ok (.bipush 62, 2) := by decide +kernel
theorem dX10_isSign_9 : decode cX10_isSign 9 = .ok (.if_icmp .eq 9, 3) := by decide +kernel
theorem dX10_isSign_12 : decode cX10_isSign 12 = .ok (.iload_n 0, 1) := by decide +kernel
theorem dX10_isSign_13 : decode cX10_isSign 13 = .ok (.bipush 61, 2) := by decide +kernel
theorem dX10_isSign_15 : decode cX10_isSign 15 = .ok (.if_icmp .ne 7, 3) := by decide +kernel
theorem dX10_isSign_18 : decode cX10_isSign 18 = .ok (.iconst 1, 1) := by decide +kernel
theorem dX10_isSign_19 : decode cX10_isSign 19 = .ok (.goto 4, 3) := by decide +kernel
theorem dX10_isSign_22 : decode cX10_isSign 22 = .ok (.iconst 0, 1) := by decide +kernel
theorem dX10_isSign_23 : decode cX10_isSign 23 = .ok (.ireturn, 1) := by decide +kernel
theorem dX10_isValue_0 : decode cX10_isValue 0 = .ok (.iload_n 0, 1) := by decide +kernel
theorem dX10_isValue_1 : decode cX10_isValue 1 = .ok (.bipush 97, 2) := by decide +kernel
theorem dX10_isValue_3 : decode cX10_isValue 3 = .ok (.if_icmp .lt 9, 3) := by decide +kernel
theorem dX10_isValue_6 : decode cX10_isValue 6 = .ok (.iload_n 0, 1) := by decide +kernel
theorem dX10_isValue_7 : decode cX10_isValue 7 = .ok (.bipush 107, 2) := by decide +kernel
theorem dX10_isValue_9 : decode cX10_isValue 9 = .ok (.if_icmp .le 33, 3) := by decide +kernel
theorem dX10_isValue_12 : decode cX10_isValue 12 = .ok (.iload_n 0, 1) := by decide +kernel
theorem dX10_isValue_13 : decode cX10_isValue 13 = .ok (.bipush 109, 2) := by decide +kernel
theorem dX10_isValue_15 : decode cX10_isValue 15 = .ok (.if_icmp .eq 27, 3) := by decide +kernel
theorem dX10_isValue_18 : decode cX10_isValue 18 = .ok (.iload_n 0, 1) := by decide +kernel
theorem dX10_isValue_19 : decode cX10_isValue 19 = .ok (.bipush 112, 2) := by decide +kernel
theorem dX10_isValue_21 : decode cX10_isValue 21 = .ok (.if_icmp .eq 21, 3) := by decide +kernel
theorem dX10_isValue_24 : decode cX10_isValue 24 = .ok (.iload_n 0, 1) := by decide +kernel
theorem dX10_isValue_25 : decode cX10_isValue 25 = .ok (.bipush 116, 2) := by decide +kernel
theorem dX10_isValue_27 : decode cX10_isValue 27 = .ok (.if_icmp .eq 15, 3) := by decide +kernel
theorem dX10_isValue_30 : decode cX10_isValue 30 = .ok (.iload_n 0, 1) := by decide +kernel
theorem dX10_isValue_31 : decode cX10_isValue 31 = .ok (.bipush 118, 2) := by decide +kernel
theorem dX10_isValue_33 : decode cX10_isValue 33 = .ok (.if_icmp .lt 13, 3) := by decide +kernel
theorem dX10_isValue_36 : decode cX10_isValue 36 = .ok (.iload_n 0, 1) := by decide +kernel
theorem dX10_isValue_37 : decode cX10_isValue 37 = .ok (.bipush 122, 2) := by decide +kernel
theorem dX10_isValue_39 : decode cX10_isValue 39 = .ok (.if_icmp .gt 7, 3) := by decide +kernel
theorem dX10_isValue_42 : decode cX10_isValue 42 = .ok (.iconst 1, 1) := by decide +kernel
theorem dX10_isValue_43 : decode cX10_isValue 43 = .ok (.goto 4, 3) := by decide +kernel
theorem dX10_isValue_46 : decode cX10_isValue 46 = .ok (.iconst 0, 1) := by decide +kernel
theorem dX10_isValue_47 : decode cX10_isValue 47 = .ok (.ireturn, 1) := by decide +kernel
theorem dX10_sums_0 : decode cX10_sums 0 = .ok (.aload_n 0, 1) := by decide +kernel
theorem dX10_sums_1 : decode cX10_sums 1 = .ok (.invokevirtual 165, 3) := by decide +kernel
theorem dX10_sums_4 : decode cX10_sums 4 = .ok (.invokestatic 168, 3) := by decide +kernel
theorem dX10_sums_7 : decode cX10_sums 7 = .ok (.ifCond .ne 17, 3) := by decide +kernel
theorem dX10_sums_10 : decode cX10_sums 10 = .ok (.iload_n 1, 1) := by decide +kernel
theorem dX10_sums_11 : decode cX10_sums 11 = .ok (.ifCond .eq 35, 3) := by decide +kernel
theorem dX10_sums_14 : decode cX10_sums 14 = .ok (.aload_n 0, 1) := by decide +kernel
theorem dX10_sums_15 : decode cX10_sums 15 = .ok (.invokevirtual 165, 3) := by decide +kernel
theorem dX10_sums_18 : decode cX10_sums 18 = .ok (.invokestatic 172, 3) := by decide +kernel
theorem dX10_sums_21 : decode cX10_sums 21 = .ok (.ifCond .eq 25, 3) := by decide +kernel
theorem dX10_sums_24 : decode cX10_sums 24 = .ok (.aload_n 0, 1) := by decide +kernel
theorem dX10_sums_25 : decode cX10_sums 25 = .ok (.aload_n 0, 1) := by decide +kernel
theorem dX10_sums_26 : decode cX10_sums 26 = .ok (.invokevirtual 165, 3) := by decide +kernel
theorem dX10_sums_29 : decode cX10_sums 29 = .ok (.iconst 0, 1) := by decide +kernel
theorem dX10_sums_30 : decode cX10_sums 30 = .ok (.invokevirtual 175, 3) := by decide +kernel
theorem dX10_sums_33 : decode cX10_sums 33 = .ok (.aload_n 0, 1) := by decide +kernel
theorem dX10_sums_34 : decode cX10_sums 34 = .ok (.dup, 1) := by decide +kernel
theorem dX10_sums_35 : decode cX10_sums 35 = .ok (.getfield 140, 3) := by decide +kernel
theorem dX10_sums_38 : decode cX10_sums 38 = .ok (.iconst 1, 1) := by decide +kernel
theorem dX10_sums_39 : decode cX10_sums 39 = .ok (.isub, 1) := by decide +kernel
theorem dX10_sums_40 : decode cX10_sums 40 = .ok (.putfield 140, 3) := by decide +kernel
theorem dX10_sums_43 : decode cX10_sums 43 = .ok (.goto (-43), 3) := by decide +kernel
theorem dX10_sums_46 : decode cX10_sums 46 = .ok (.return_, 1) := by decide +kernel
theorem dX10_joins_0 : decode cX10_joins 0 = .ok (.aload_n 0, 1) := by decide +kernel
theorem dX10_joins_1 : decode cX10_joins 1 = .ok (.invokevirtual 165, 3) := by decide +kernel
theorem dX10_joins_4 : decode cX10_joins 4 = .ok (.bipush 38, 2) := by decide +kernel
theorem dX10_joins_6 : decode cX10_joins 6 = .ok (.if_icmp .eq 16, 3) := by decide +kernel
theorem dX10_joins_9 : decode cX10_joins 9 = .ok (.iload_n 1, 1) := by decide +kernel
theorem dX10_joins_10 : decode cX10_joins 10 = .ok (.ifCond .eq 34, 3) := by decide +kernel
theorem dX10_joins_13 : decode cX10_joins 13 = .ok (.aload_n 0, 1) := by decide +kernel
theorem dX10_joins_14 : decode cX10_joins 14 = .ok (.invokevirtual 165, 3) := by decide +kernel
theorem dX10_joins_17 : decode cX10_joins 17 = .ok (.bipush 124, 2) := by decide +kernel
theorem dX10_joins_19 : decode cX10_joins 19 = .ok (.if_icmp .ne 25, 3) := by decide +kernel
theorem dX10_joins_22 : decode cX10_joins 22 = .ok (.aload_n 0, 1) := by decide +kernel
theorem dX10_joins_23 : decode cX10_joins 23 = .ok (.aload_n 0, 1) := by decide +kernel
theorem dX10_joins_24 : decode cX10_joins 24 = .ok (.invokevirtual 165, 3) := by decide +kernel
theorem dX10_joins_27 : decode cX10_joins 27 = .ok (.iconst 0, 1) := by decide +kernel
theorem dX10_joins_28 : decode cX10_joins 28 = .ok (.invokevirtual 175, 3) := by decide +kernel
theorem dX10_joins_31 : decode cX10_joins 31 = .ok (.aload_n 0, 1) := by decide +kernel
theorem dX10_joins_32 : decode cX10_joins 32 = .ok (.dup, 1) := by decide +kernel
theorem dX10_joins_33 : decode cX10_joins 33 = .ok (.getfield 140, 3) := by decide +kernel
theorem dX10_joins_36 : decode cX10_joins 36 = .ok (.iconst 1, 1) := by decide +kernel
theorem dX10_joins_37 : decode cX10_joins 37 = .ok (.isub, 1) := by decide +kernel
theorem dX10_joins_38 : decode cX10_joins 38 = .ok (.putfield 140, 3) := by decide +kernel
theorem dX10_joins_41 : decode cX10_joins 41 = .ok (.goto (-41), 3) := by decide +kernel
theorem dX10_joins_44 : decode cX10_joins 44 = .ok (.return_, 1) := by decide +kernel
theorem dX10_ends_0 : decode cX10_ends 0 = .ok (.aload_n 0, 1) := by decide +kernel
theorem dX10_ends_1 : decode cX10_ends 1 = .ok (.invokevirtual 165, 3) := by decide +kernel
theorem dX10_ends_4 : decode cX10_ends 4 = .ok (.bipush 33, 2) := by decide +kernel
theorem dX10_ends_6 : decode cX10_ends 6 = .ok (.if_icmp .ne 32, 3) := by decide +kernel
theorem dX10_ends_9 : decode cX10_ends 9 = .ok (.aload_n 0, 1) := by decide +kernel
theorem dX10_ends_10 : decode cX10_ends 10 = .ok (.iconst 2, 1) := by decide +kernel
theorem dX10_ends_11 : decode cX10_ends 11 = .ok (.iconst 0, 1) := by decide +kernel
theorem dX10_ends_12 : decode cX10_ends 12 = .ok (.invokevirtual 175, 3) := by decide +kernel
theorem dX10_ends_15 : decode cX10_ends 15 = .ok (.aload_n 0, 1) := by decide +kernel
theorem dX10_ends_16 : decode cX10_ends 16 = .ok (.dup, 1) := by decide +kernel
theorem dX10_ends_17 : decode cX10_ends 17 = .ok (.getfield 140, 3) := by decide +kernel
theorem dX10_ends_20 : decode cX10_ends 20 = .ok (.iconst 1, 1) := by decide +kernel
theorem dX10_ends_21 : decode cX10_ends 21 = .ok (.isub, 1) := by decide +kernel
theorem dX10_ends_22 : decode cX10_ends 22 = .ok (.putfield 140, 3) := by decide +kernel
theorem dX10_ends_25 : decode cX10_ends 25 = .ok (.aload_n 0, 1) := by decide +kernel
theorem dX10_ends_26 : decode cX10_ends 26 = .ok (.dup, 1) := by decide +kernel
theorem dX10_ends_27 : decode cX10_ends 27 = .ok (.getfield 143, 3) := by decide +kernel
theorem dX10_ends_30 : decode cX10_ends 30 = .ok (.iconst 1, 1) := by decide +kernel
theorem dX10_ends_31 : decode cX10_ends 31 = .ok (.isub, 1) := by decide +kernel
theorem dX10_ends_32 : decode cX10_ends 32 = .ok (.putfield 143, 3) := by decide +kernel
theorem dX10_ends_35 : decode cX10_ends 35 = .ok (.goto (-35), 3) := by decide +kernel
theorem dX10_ends_38 : decode cX10_ends 38 = .ok (.return_, 1) := by decide +kernel
theorem dX10_factor_0 : decode cX10_factor 0 = .ok (.aload_n 0, 1) := by decide +kernel
theorem dX10_factor_1 : decode cX10_factor 1 = .ok (.invokevirtual 133, 3) := by decide +kernel
theorem dX10_factor_4 : decode cX10_factor 4 = .ok (.ifCond .eq 19, 3) := by decide +kernel
theorem dX10_factor_7 : decode cX10_factor 7 = .ok (.aload_n 0, 1) := by decide +kernel
theorem dX10_factor_8 : decode cX10_factor 8 = .ok (.invokevirtual 150, 3) := by decide +kernel
theorem dX10_factor_11 : decode cX10_factor 11 = .ok (.bipush 91, 2) := by decide +kernel
theorem dX10_factor_13 : decode cX10_factor 13 = .ok (.if_icmp .ne 10, 3) := by decide +kernel
theorem dX10_factor_16 : decode cX10_factor 16 = .ok (.aload_n 0, 1) := by decide +kernel
theorem dX10_factor_17 : decode cX10_factor 17 = .ok (.invokevirtual 178, 3) := by decide +kernel
theorem dX10_factor_20 : decode cX10_factor 20 = .ok (.goto (-20), 3) := by decide +kernel
theorem dX10_factor_23 : decode cX10_factor 23 = .ok (.aload_n 0, 1) := by decide +kernel
theorem dX10_factor_24 : decode cX10_factor 24 = .ok (.invokevirtual 133, 3) := by decide +kernel
theorem dX10_factor_27 : decode cX10_factor 27 = .ok (.ifCond .ne 4, 3) := by decide +kernel
theorem dX10_factor_30 : decode cX10_factor 30 = .ok (.return_, 1) := by decide +kernel
theorem dX10_factor_31 : decode cX10_factor 31 = .ok (.aload_n 0, 1) := by decide +kernel
theorem dX10_factor_32 : decode cX10_factor 32 = .ok (.invokevirtual 162, 3) := by decide +kernel
theorem dX10_factor_35 : decode cX10_factor 35 = .ok (.ifCond .eq 15, 3) := by decide +kernel
theorem dX10_factor_38 : decode cX10_factor 38 = .ok (.aload_n 0, 1) := by decide +kernel
theorem dX10_factor_39 : decode cX10_factor 39 = .ok (.iconst 0, 1) := by decide +kernel
theorem dX10_factor_40 : decode cX10_factor 40 = .ok (.aload_n 0, 1) := by decide +kernel
theorem dX10_factor_41 : decode cX10_factor 41 = .ok (.invokevirtual 181, 3) := by decide +kernel
theorem dX10_factor_44 : decode cX10_factor 44 = .ok (.invokevirtual 175, 3) := by decide +kernel
theorem dX10_factor_47 : decode cX10_factor 47 = .ok (.goto 44, 3) := by decide +kernel
theorem dX10_factor_50 : decode cX10_factor 50 = .ok (.aload_n 0, 1) := by decide +kernel
theorem dX10_factor_51 : decode cX10_factor 51 = .ok (.invokevirtual 150, 3) := by decide +kernel
theorem dX10_factor_54 : decode cX10_factor 54 = .ok (.invokestatic 184, 3) := by decide +kernel
theorem dX10_factor_57 : decode cX10_factor 57 = .ok (.ifCond .eq 25, 3) := by decide +kernel
theorem dX10_factor_60 : decode cX10_factor 60 = .ok (.aload_n 0, 1) := by decide +kernel
theorem dX10_factor_61 : decode cX10_factor 61 = .ok (.iconst 1, 1) := by decide +kernel
theorem dX10_factor_62 : decode cX10_factor 62 = .ok (.aload_n 0, 1) := by decide +kernel
theorem dX10_factor_63 : decode cX10_factor 63 = .ok (.invokevirtual 150, 3) := by decide +kernel
theorem dX10_factor_66 : decode cX10_factor 66 = .ok (.invokevirtual 175, 3) := by decide +kernel
theorem dX10_factor_69 : decode cX10_factor 69 = .ok (.aload_n 0, 1) := by decide +kernel
theorem dX10_factor_70 : decode cX10_factor 70 = .ok (.dup, 1) := by decide +kernel
theorem dX10_factor_71 : decode cX10_factor 71 = .ok (.getfield 124, 3) := by decide +kernel
theorem dX10_factor_74 : decode cX10_factor 74 = .ok (.iconst 1, 1) := by decide +kernel
theorem dX10_factor_75 : decode cX10_factor 75 = .ok (.iadd, 1) := by decide +kernel
theorem dX10_factor_76 : decode cX10_factor 76 = .ok (.putfield 124, 3) := by decide +kernel
theorem dX10_factor_79 : decode cX10_factor 79 = .ok (.goto 12, 3) := by decide +kernel
theorem dX10_factor_82 : decode cX10_factor 82 = .ok (.aload_n 0, 1) := by decide +kernel
theorem dX10_factor_83 : decode cX10_factor 83 = .ok (.iconst 1, 1) := by decide +kernel
theorem dX10_factor_84 : decode cX10_factor 84 = .ok (.aload_n 0, 1) := by decide +kernel
theorem dX10_factor_85 : decode cX10_factor 85 = .ok (.getfield 124, 3) := by decide +kernel
theorem dX10_factor_88 : decode cX10_factor 88 = .ok (.invokevirtual 146, 3) := by decide +kernel
theorem dX10_factor_91 : decode cX10_factor 91 = .ok (.return_, 1) := by decide +kernel
theorem dX10_stays_0 : decode cX10_stays 0 = .ok (.aload_n 0, 1) := by decide +kernel
theorem dX10_stays_1 : decode cX10_stays 1 = .ok (.invokevirtual 150, 3) := by decide +kernel
theorem dX10_stays_4 : decode cX10_stays 4 = .ok (.istore_n 1, 1) := by decide +kernel
theorem dX10_stays_5 : decode cX10_stays 5 = .ok (.iload_n 1, 1) := by decide +kernel
theorem dX10_stays_6 : decode cX10_stays 6 = .ok (.invokestatic 168, 3) := by decide +kernel
theorem dX10_stays_9 : decode cX10_stays 9 = .ok (.ifCond .ne 10, 3) := by decide +kernel
theorem dX10_stays_12 : decode cX10_stays 12 = .ok (.iload_n 1, 1) := by decide +kernel
theorem dX10_stays_13 : decode cX10_stays 13 = .ok (.invokestatic 172, 3) := by decide +kernel
theorem dX10_stays_16 : decode cX10_stays 16 = .ok (.ifCond .eq 18, 3) := by decide +kernel
theorem dX10_stays_19 : decode cX10_stays 19 = .ok (.aload_n 0, 1) := by decide +kernel
theorem dX10_stays_20 : decode cX10_stays 20 = .ok (.iload_n 1, 1) := by decide +kernel
theorem dX10_stays_21 : decode cX10_stays 21 = .ok (.invokestatic 172, 3) := by decide +kernel
theorem dX10_stays_24 : decode cX10_stays 24 = .ok (.invokevirtual 187, 3) := by decide +kernel
theorem dX10_stays_27 : decode cX10_stays 27 = .ok (.aload_n 0, 1) := by decide +kernel
theorem dX10_stays_28 : decode cX10_stays 28 = .ok (.iload_n 1, 1) := by decide +kernel
theorem dX10_stays_29 : decode cX10_stays 29 = .ok (.invokevirtual 154, 3) := by decide +kernel
theorem dX10_stays_32 : decode cX10_stays 32 = .ok (.iconst 1, 1) := by decide +kernel
theorem dX10_stays_33 : decode cX10_stays 33 = .ok (.ireturn, 1) := by decide +kernel
theorem dX10_stays_34 : decode cX10_stays 34 = .ok (.aload_n 0, 1) := by decide +kernel
theorem dX10_stays_35 : decode cX10_stays 35 = .ok (.iconst 1, 1) := by decide +kernel
theorem dX10_stays_36 : decode cX10_stays 36 = .ok (.invokevirtual 187, 3) := by decide +kernel
theorem dX10_stays_39 : decode cX10_stays 39 = .ok (.iload_n 1, 1) := by decide +kernel
theorem dX10_stays_40 : decode cX10_stays 40 = .ok (.bipush 93, 2) := by decide +kernel
theorem dX10_stays_42 : decode cX10_stays 42 = .ok (.if_icmp .eq 5, 3) := by decide +kernel
theorem dX10_stays_45 : decode cX10_stays 45 = .ok (.iconst 0, 1) := by decide +kernel
theorem dX10_stays_46 : decode cX10_stays 46 = .ok (.ireturn, 1) := by decide +kernel
theorem dX10_stays_47 : decode cX10_stays 47 = .ok (.aload_n 0, 1) := by decide +kernel
theorem dX10_stays_48 : decode cX10_stays 48 = .ok (.invokevirtual 165, 3) := by decide +kernel
theorem dX10_stays_51 : decode cX10_stays 51 = .ok (.bipush 91, 2) := by decide +kernel
theorem dX10_stays_53 : decode cX10_stays 53 = .ok (.if_icmp .eq 14, 3) := by decide +kernel
theorem dX10_stays_56 : decode cX10_stays 56 = .ok (.aload_n 0, 1) := by decide +kernel
theorem dX10_stays_57 : decode cX10_stays 57 = .ok (.iconst 1, 1) := by decide +kernel
theorem dX10_stays_58 : decode cX10_stays 58 = .ok (.aload_n 0, 1) := by decide +kernel
theorem dX10_stays_59 : decode cX10_stays 59 = .ok (.getfield 124, 3) := by decide +kernel
theorem dX10_stays_62 : decode cX10_stays 62 = .ok (.invokevirtual 146, 3) := by decide +kernel
theorem dX10_stays_65 : decode cX10_stays 65 = .ok (.iconst 0, 1) := by decide +kernel
theorem dX10_stays_66 : decode cX10_stays 66 = .ok (.ireturn, 1) := by decide +kernel
theorem dX10_stays_67 : decode cX10_stays 67 = .ok (.aload_n 0, 1) := by decide +kernel
theorem dX10_stays_68 : decode cX10_stays 68 = .ok (.dup, 1) := by decide +kernel
theorem dX10_stays_69 : decode cX10_stays 69 = .ok (.getfield 140, 3) := by decide +kernel
theorem dX10_stays_72 : decode cX10_stays 72 = .ok (.iconst 1, 1) := by decide +kernel
theorem dX10_stays_73 : decode cX10_stays 73 = .ok (.isub, 1) := by decide +kernel
theorem dX10_stays_74 : decode cX10_stays 74 = .ok (.putfield 140, 3) := by decide +kernel
theorem dX10_stays_77 : decode cX10_stays 77 = .ok (.aload_n 0, 1) := by decide +kernel
theorem dX10_stays_78 : decode cX10_stays 78 = .ok (.dup, 1) := by decide +kernel
theorem dX10_stays_79 : decode cX10_stays 79 = .ok (.getfield 143, 3) := by decide +kernel
theorem dX10_stays_82 : decode cX10_stays 82 = .ok (.iconst 1, 1) := by decide +kernel
theorem dX10_stays_83 : decode cX10_stays 83 = .ok (.isub, 1) := by decide +kernel
theorem dX10_stays_84 : decode cX10_stays 84 = .ok (.putfield 143, 3) := by decide +kernel
theorem dX10_stays_87 : decode cX10_stays 87 = .ok (.aload_n 0, 1) := by decide +kernel
theorem dX10_stays_88 : decode cX10_stays 88 = .ok (.dup, 1) := by decide +kernel
theorem dX10_stays_89 : decode cX10_stays 89 = .ok (.getfield 124, 3) := by decide +kernel
theorem dX10_stays_92 : decode cX10_stays 92 = .ok (.iconst 1, 1) := by decide +kernel
theorem dX10_stays_93 : decode cX10_stays 93 = .ok (.iadd, 1) := by decide +kernel
theorem dX10_stays_94 : decode cX10_stays 94 = .ok (.putfield 124, 3) := by decide +kernel
theorem dX10_stays_97 : decode cX10_stays 97 = .ok (.aload_n 0, 1) := by decide +kernel
theorem dX10_stays_98 : decode cX10_stays 98 = .ok (.iconst 1, 1) := by decide +kernel
theorem dX10_stays_99 : decode cX10_stays 99 = .ok (.putfield 191, 3) := by decide +kernel
theorem dX10_stays_102 : decode cX10_stays 102 = .ok (.iconst 1, 1) := by decide +kernel
theorem dX10_stays_103 : decode cX10_stays 103 = .ok (.ireturn, 1) := by decide +kernel
theorem dX10_value_0 : decode cX10_value 0 = .ok (.iconst 1, 1) := by decide +kernel
theorem dX10_value_1 : decode cX10_value 1 = .ok (.istore_n 1, 1) := by decide +kernel
theorem dX10_value_2 : decode cX10_value 2 = .ok (.aload_n 0, 1) := by decide +kernel
theorem dX10_value_3 : decode cX10_value 3 = .ok (.iconst 0, 1) := by decide +kernel
theorem dX10_value_4 : decode cX10_value 4 = .ok (.putfield 191, 3) := by decide +kernel
theorem dX10_value_7 : decode cX10_value 7 = .ok (.iload_n 1, 1) := by decide +kernel
theorem dX10_value_8 : decode cX10_value 8 = .ok (.ifCond .eq 49, 3) := by decide +kernel
theorem dX10_value_11 : decode cX10_value 11 = .ok (.aload_n 0, 1) := by decide +kernel
theorem dX10_value_12 : decode cX10_value 12 = .ok (.invokevirtual 133, 3) := by decide +kernel
theorem dX10_value_15 : decode cX10_value 15 = .ok (.ifCond .eq 42, 3) := by decide +kernel
theorem dX10_value_18 : decode cX10_value 18 = .ok (.aload_n 0, 1) := by decide +kernel
theorem dX10_value_19 : decode cX10_value 19 = .ok (.getfield 191, 3) := by decide +kernel
theorem dX10_value_22 : decode cX10_value 22 = .ok (.ifCond .ne 7, 3) := by decide +kernel
theorem dX10_value_25 : decode cX10_value 25 = .ok (.aload_n 0, 1) := by decide +kernel
theorem dX10_value_26 : decode cX10_value 26 = .ok (.invokevirtual 195, 3) := by decide +kernel
theorem dX10_value_29 : decode cX10_value 29 = .ok (.aload_n 0, 1) := by decide +kernel
theorem dX10_value_30 : decode cX10_value 30 = .ok (.iconst 0, 1) := by decide +kernel
theorem dX10_value_31 : decode cX10_value 31 = .ok (.putfield 191, 3) := by decide +kernel
theorem dX10_value_34 : decode cX10_value 34 = .ok (.aload_n 0, 1) := by decide +kernel
theorem dX10_value_35 : decode cX10_value 35 = .ok (.invokevirtual 133, 3) := by decide +kernel
theorem dX10_value_38 : decode cX10_value 38 = .ok (.ifCond .eq 14, 3) := by decide +kernel
theorem dX10_value_41 : decode cX10_value 41 = .ok (.aload_n 0, 1) := by decide +kernel
theorem dX10_value_42 : decode cX10_value 42 = .ok (.invokevirtual 198, 3) := by decide +kernel
theorem dX10_value_45 : decode cX10_value 45 = .ok (.ifCond .eq 7, 3) := by decide +kernel
theorem dX10_value_48 : decode cX10_value 48 = .ok (.iconst 1, 1) := by decide +kernel
theorem dX10_value_49 : decode cX10_value 49 = .ok (.goto 4, 3) := by decide +kernel
theorem dX10_value_52 : decode cX10_value 52 = .ok (.iconst 0, 1) := by decide +kernel
theorem dX10_value_53 : decode cX10_value 53 = .ok (.istore_n 1, 1) := by decide +kernel
theorem dX10_value_54 : decode cX10_value 54 = .ok (.goto (-47), 3) := by decide +kernel
theorem dX10_value_57 : decode cX10_value 57 = .ok (.aload_n 0, 1) := by decide +kernel
theorem dX10_value_58 : decode cX10_value 58 = .ok (.invokevirtual 133, 3) := by decide +kernel
theorem dX10_value_61 : decode cX10_value 61 = .ok (.ifCond .eq 21, 3) := by decide +kernel
theorem dX10_value_64 : decode cX10_value 64 = .ok (.aload_n 0, 1) := by decide +kernel
theorem dX10_value_65 : decode cX10_value 65 = .ok (.invokevirtual 165, 3) := by decide +kernel
theorem dX10_value_68 : decode cX10_value 68 = .ok (.bipush 91, 2) := by decide +kernel
theorem dX10_value_70 : decode cX10_value 70 = .ok (.if_icmp .ne 12, 3) := by decide +kernel
theorem dX10_value_73 : decode cX10_value 73 = .ok (.aload_n 0, 1) := by decide +kernel
theorem dX10_value_74 : decode cX10_value 74 = .ok (.iconst 1, 1) := by decide +kernel
theorem dX10_value_75 : decode cX10_value 75 = .ok (.aload_n 0, 1) := by decide +kernel
theorem dX10_value_76 : decode cX10_value 76 = .ok (.getfield 124, 3) := by decide +kernel
theorem dX10_value_79 : decode cX10_value 79 = .ok (.invokevirtual 146, 3) := by decide +kernel
theorem dX10_value_82 : decode cX10_value 82 = .ok (.return_, 1) := by decide +kernel
theorem dX10_pieceOfC_0 : decode cX10_pieceOfC 0 = .ok (.aload_n 0, 1) := by decide +kernel
theorem dX10_pieceOfC_1 : decode cX10_pieceOfC 1 = .ok (.invokevirtual 133, 3) := by decide +kernel
theorem dX10_pieceOfC_4 : decode cX10_pieceOfC 4 = .ok (.ifCond .eq 28, 3) := by decide +kernel
theorem dX10_pieceOfC_7 : decode cX10_pieceOfC 7 = .ok (.aload_n 0, 1) := by decide +kernel
theorem dX10_pieceOfC_8 : decode cX10_pieceOfC 8 = .ok (.invokevirtual 150, 3) := by decide +kernel
theorem dX10_pieceOfC_11 : decode cX10_pieceOfC 11 = .ok (.bipush 33, 2) := by decide +kernel
theorem dX10_pieceOfC_13 : decode cX10_pieceOfC 13 = .ok (.if_icmp .eq 12, 3) := by decide +kernel
theorem dX10_pieceOfC_16 : decode cX10_pieceOfC 16 = .ok (.aload_n 0, 1) := by decide +kernel
theorem dX10_pieceOfC_17 : decode cX10_pieceOfC 17 = .ok (.invokevirtual 150, 3) := by decide +kernel
theorem dX10_pieceOfC_20 : decode cX10_pieceOfC 20 = .ok (.bipush 40, 2) := by decide +kernel
theorem dX10_pieceOfC_22 : decode cX10_pieceOfC 22 = .ok (.if_icmp .ne 10, 3) := by decide +kernel
theorem dX10_pieceOfC_25 : decode cX10_pieceOfC 25 = .ok (.aload_n 0, 1) := by decide +kernel
theorem dX10_pieceOfC_26 : decode cX10_pieceOfC 26 = .ok (.invokevirtual 178, 3) := by decide +kernel
theorem dX10_pieceOfC_29 : decode cX10_pieceOfC 29 = .ok (.goto (-29), 3) := by decide +kernel
theorem dX10_pieceOfC_32 : decode cX10_pieceOfC 32 = .ok (.aload_n 0, 1) := by decide +kernel
theorem dX10_pieceOfC_33 : decode cX10_pieceOfC 33 = .ok (.invokevirtual 133, 3) := by decide +kernel
theorem dX10_pieceOfC_36 : decode cX10_pieceOfC 36 = .ok (.ifCond .eq 7, 3) := by decide +kernel
theorem dX10_pieceOfC_39 : decode cX10_pieceOfC 39 = .ok (.aload_n 0, 1) := by decide +kernel
theorem dX10_pieceOfC_40 : decode cX10_pieceOfC 40 = .ok (.invokevirtual 201, 3) := by decide +kernel
theorem dX10_pieceOfC_43 : decode cX10_pieceOfC 43 = .ok (.aload_n 0, 1) := by decide +kernel
theorem dX10_pieceOfC_44 : decode cX10_pieceOfC 44 = .ok (.invokevirtual 133, 3) := by decide +kernel
theorem dX10_pieceOfC_47 : decode cX10_pieceOfC 47 = .ok (.ifCond .ne 4, 3) := by decide +kernel
theorem dX10_pieceOfC_50 : decode cX10_pieceOfC 50 = .ok (.return_, 1) := by decide +kernel
theorem dX10_pieceOfC_51 : decode cX10_pieceOfC 51 = .ok (.aload_n 0, 1) := by decide +kernel
theorem dX10_pieceOfC_52 : decode cX10_pieceOfC 52 = .ok (.invokevirtual 150, 3) := by decide +kernel
theorem dX10_pieceOfC_55 : decode cX10_pieceOfC 55 = .ok (.istore_n 1, 1) := by decide +kernel
theorem dX10_pieceOfC_56 : decode cX10_pieceOfC 56 = .ok (.iload_n 1, 1) := by decide +kernel
theorem dX10_pieceOfC_57 : decode cX10_pieceOfC 57 = .ok (.invokestatic 204, 3) := by decide +kernel
theorem dX10_pieceOfC_60 : decode cX10_pieceOfC 60 = .ok (.ifCond .ne 13, 3) := by decide +kernel
theorem dX10_pieceOfC_63 : decode cX10_pieceOfC 63 = .ok (.aload_n 0, 1) := by decide +kernel
theorem dX10_pieceOfC_64 : decode cX10_pieceOfC 64 = .ok (.iconst 1, 1) := by decide +kernel
theorem dX10_pieceOfC_65 : decode cX10_pieceOfC 65 = .ok (.aload_n 0, 1) := by decide +kernel
theorem dX10_pieceOfC_66 : decode cX10_pieceOfC 66 = .ok (.getfield 124, 3) := by decide +kernel
theorem dX10_pieceOfC_69 : decode cX10_pieceOfC 69 = .ok (.invokevirtual 146, 3) := by decide +kernel
theorem dX10_pieceOfC_72 : decode cX10_pieceOfC 72 = .ok (.return_, 1) := by decide +kernel
theorem dX10_pieceOfC_73 : decode cX10_pieceOfC 73 = .ok (.aload_n 0, 1) := by decide +kernel
theorem dX10_pieceOfC_74 : decode cX10_pieceOfC 74 = .ok (.iload_n 1, 1) := by decide +kernel
theorem dX10_pieceOfC_75 : decode cX10_pieceOfC 75 = .ok (.invokevirtual 154, 3) := by decide +kernel
theorem dX10_pieceOfC_78 : decode cX10_pieceOfC 78 = .ok (.aload_n 0, 1) := by decide +kernel
theorem dX10_pieceOfC_79 : decode cX10_pieceOfC 79 = .ok (.invokevirtual 201, 3) := by decide +kernel
theorem dX10_pieceOfC_82 : decode cX10_pieceOfC 82 = .ok (.aload_n 0, 1) := by decide +kernel
theorem dX10_pieceOfC_83 : decode cX10_pieceOfC 83 = .ok (.invokevirtual 133, 3) := by decide +kernel
theorem dX10_pieceOfC_86 : decode cX10_pieceOfC 86 = .ok (.ifCond .ne 4, 3) := by decide +kernel
theorem dX10_pieceOfC_89 : decode cX10_pieceOfC 89 = .ok (.return_, 1) := by decide +kernel
theorem dX10_pieceOfC_90 : decode cX10_pieceOfC 90 = .ok (.aload_n 0, 1) := by decide +kernel
theorem dX10_pieceOfC_91 : decode cX10_pieceOfC 91 = .ok (.aload_n 0, 1) := by decide +kernel
theorem dX10_pieceOfC_92 : decode cX10_pieceOfC 92 = .ok (.invokevirtual 165, 3) := by decide +kernel
theorem dX10_pieceOfC_95 : decode cX10_pieceOfC 95 = .ok (.iconst 0, 1) := by decide +kernel
theorem dX10_pieceOfC_96 : decode cX10_pieceOfC 96 = .ok (.invokevirtual 175, 3) := by decide +kernel
theorem dX10_pieceOfC_99 : decode cX10_pieceOfC 99 = .ok (.aload_n 0, 1) := by decide +kernel
theorem dX10_pieceOfC_100 : decode cX10_pieceOfC 100 = .ok (.dup, 1) := by decide +kernel
theorem dX10_pieceOfC_101 : decode cX10_pieceOfC 101 = .ok (.getfield 140, 3) := by decide +kernel
theorem dX10_pieceOfC_104 : decode cX10_pieceOfC 104 = .ok (.iconst 1, 1) := by decide +kernel
theorem dX10_pieceOfC_105 : decode cX10_pieceOfC 105 = .ok (.isub, 1) := by decide +kernel
theorem dX10_pieceOfC_106 : decode cX10_pieceOfC 106 = .ok (.putfield 140, 3) := by decide +kernel
theorem dX10_pieceOfC_109 : decode cX10_pieceOfC 109 = .ok (.aload_n 0, 1) := by decide +kernel
theorem dX10_pieceOfC_110 : decode cX10_pieceOfC 110 = .ok (.invokevirtual 207, 3) := by decide +kernel
theorem dX10_pieceOfC_113 : decode cX10_pieceOfC 113 = .ok (.return_, 1) := by decide +kernel
theorem dX10_goesBehind_0 : decode cX10_goesBehind 0 = .ok (.aload_n 0, 1) := by decide +kernel
theorem dX10_goesBehind_1 : decode cX10_goesBehind 1 = .ok (.invokevirtual 150, 3) := by decide +kernel
theorem dX10_goesBehind_4 : decode cX10_goesBehind 4 = .ok (.istore_n 1, 1) := by decide +kernel
theorem dX10_goesBehind_5 : decode cX10_goesBehind 5 = .ok (.iload_n 1, 1) := by decide +kernel
theorem dX10_goesBehind_6 : decode cX10_goesBehind 6 = .ok (.bipush 38, 2) := by decide +kernel
theorem dX10_goesBehind_8 : decode cX10_goesBehind 8 = .ok (.if_icmp .eq 9, 3) := by decide +kernel
theorem dX10_goesBehind_11 : decode cX10_goesBehind 11 = .ok (.iload_n 1, 1) := by decide +kernel
theorem dX10_goesBehind_12 : decode cX10_goesBehind 12 = .ok (.bipush 124, 2) := by decide +kernel
theorem dX10_goesBehind_14 : decode cX10_goesBehind 14 = .ok (.if_icmp .ne 25, 3) := by decide +kernel
theorem dX10_goesBehind_17 : decode cX10_goesBehind 17 = .ok (.aload_n 0, 1) := by decide +kernel
theorem dX10_goesBehind_18 : decode cX10_goesBehind 18 = .ok (.iload_n 1, 1) := by decide +kernel
theorem dX10_goesBehind_19 : decode cX10_goesBehind 19 = .ok (.bipush 124, 2) := by decide +kernel
theorem dX10_goesBehind_21 : decode cX10_goesBehind 21 = .ok (.if_icmp .ne 7, 3) := by decide +kernel
theorem dX10_goesBehind_24 : decode cX10_goesBehind 24 = .ok (.iconst 1, 1) := by decide +kernel
theorem dX10_goesBehind_25 : decode cX10_goesBehind 25 = .ok (.goto 4, 3) := by decide +kernel
theorem dX10_goesBehind_28 : decode cX10_goesBehind 28 = .ok (.iconst 0, 1) := by decide +kernel
theorem dX10_goesBehind_29 : decode cX10_goesBehind 29 = .ok (.invokevirtual 210, 3) := by decide +kernel
theorem dX10_goesBehind_32 : decode cX10_goesBehind 32 = .ok (.aload_n 0, 1) := by decide +kernel
theorem dX10_goesBehind_33 : decode cX10_goesBehind 33 = .ok (.iload_n 1, 1) := by decide +kernel
theorem dX10_goesBehind_34 : decode cX10_goesBehind 34 = .ok (.invokevirtual 154, 3) := by decide +kernel
theorem dX10_goesBehind_37 : decode cX10_goesBehind 37 = .ok (.iconst 1, 1) := by decide +kernel
theorem dX10_goesBehind_38 : decode cX10_goesBehind 38 = .ok (.ireturn, 1) := by decide +kernel
theorem dX10_goesBehind_39 : decode cX10_goesBehind 39 = .ok (.iload_n 1, 1) := by decide +kernel
theorem dX10_goesBehind_40 : decode cX10_goesBehind 40 = .ok (.bipush 41, 2) := by decide +kernel
theorem dX10_goesBehind_42 : decode cX10_goesBehind 42 = .ok (.if_icmp .eq 14, 3) := by decide +kernel
theorem dX10_goesBehind_45 : decode cX10_goesBehind 45 = .ok (.aload_n 0, 1) := by decide +kernel
theorem dX10_goesBehind_46 : decode cX10_goesBehind 46 = .ok (.iconst 1, 1) := by decide +kernel
theorem dX10_goesBehind_47 : decode cX10_goesBehind 47 = .ok (.aload_n 0, 1) := by decide +kernel
theorem dX10_goesBehind_48 : decode cX10_goesBehind 48 = .ok (.getfield 124, 3) := by decide +kernel
theorem dX10_goesBehind_51 : decode cX10_goesBehind 51 = .ok (.invokevirtual 146, 3) := by decide +kernel
theorem dX10_goesBehind_54 : decode cX10_goesBehind 54 = .ok (.iconst 0, 1) := by decide +kernel
theorem dX10_goesBehind_55 : decode cX10_goesBehind 55 = .ok (.ireturn, 1) := by decide +kernel
theorem dX10_goesBehind_56 : decode cX10_goesBehind 56 = .ok (.aload_n 0, 1) := by decide +kernel
theorem dX10_goesBehind_57 : decode cX10_goesBehind 57 = .ok (.iconst 1, 1) := by decide +kernel
theorem dX10_goesBehind_58 : decode cX10_goesBehind 58 = .ok (.invokevirtual 210, 3) := by decide +kernel
theorem dX10_goesBehind_61 : decode cX10_goesBehind 61 = .ok (.aload_n 0, 1) := by decide +kernel
theorem dX10_goesBehind_62 : decode cX10_goesBehind 62 = .ok (.dup, 1) := by decide +kernel
theorem dX10_goesBehind_63 : decode cX10_goesBehind 63 = .ok (.getfield 140, 3) := by decide +kernel
theorem dX10_goesBehind_66 : decode cX10_goesBehind 66 = .ok (.iconst 1, 1) := by decide +kernel
theorem dX10_goesBehind_67 : decode cX10_goesBehind 67 = .ok (.isub, 1) := by decide +kernel
theorem dX10_goesBehind_68 : decode cX10_goesBehind 68 = .ok (.putfield 140, 3) := by decide +kernel
theorem dX10_goesBehind_71 : decode cX10_goesBehind 71 = .ok (.aload_n 0, 1) := by decide +kernel
theorem dX10_goesBehind_72 : decode cX10_goesBehind 72 = .ok (.dup, 1) := by decide +kernel
theorem dX10_goesBehind_73 : decode cX10_goesBehind 73 = .ok (.getfield 143, 3) := by decide +kernel
theorem dX10_goesBehind_76 : decode cX10_goesBehind 76 = .ok (.iconst 1, 1) := by decide +kernel
theorem dX10_goesBehind_77 : decode cX10_goesBehind 77 = .ok (.isub, 1) := by decide +kernel
theorem dX10_goesBehind_78 : decode cX10_goesBehind 78 = .ok (.putfield 143, 3) := by decide +kernel
theorem dX10_goesBehind_81 : decode cX10_goesBehind 81 = .ok (.aload_n 0, 1) := by decide +kernel
theorem dX10_goesBehind_82 : decode cX10_goesBehind 82 = .ok (.dup, 1) := by decide +kernel
theorem dX10_goesBehind_83 : decode cX10_goesBehind 83 = .ok (.getfield 124, 3) := by decide +kernel
theorem dX10_goesBehind_86 : decode cX10_goesBehind 86 = .ok (.iconst 1, 1) := by decide +kernel
theorem dX10_goesBehind_87 : decode cX10_goesBehind 87 = .ok (.iadd, 1) := by decide +kernel
theorem dX10_goesBehind_88 : decode cX10_goesBehind 88 = .ok (.putfield 124, 3) := by decide +kernel
theorem dX10_goesBehind_91 : decode cX10_goesBehind 91 = .ok (.aload_n 0, 1) := by decide +kernel
theorem dX10_goesBehind_92 : decode cX10_goesBehind 92 = .ok (.aload_n 0, 1) := by decide +kernel
theorem dX10_goesBehind_93 : decode cX10_goesBehind 93 = .ok (.getfield 140, 3) := by decide +kernel
theorem dX10_goesBehind_96 : decode cX10_goesBehind 96 = .ok (.ifCond .ne 7, 3) := by decide +kernel
theorem dX10_goesBehind_99 : decode cX10_goesBehind 99 = .ok (.iconst 1, 1) := by decide +kernel
theorem dX10_goesBehind_100 : decode cX10_goesBehind 100 = .ok (.goto 4, 3) := by decide +kernel
theorem dX10_goesBehind_103 : decode cX10_goesBehind 103 = .ok (.iconst 0, 1) := by decide +kernel
theorem dX10_goesBehind_104 : decode cX10_goesBehind 104 = .ok (.putfield 213, 3) := by decide +kernel
theorem dX10_goesBehind_107 : decode cX10_goesBehind 107 = .ok (.aload_n 0, 1) := by decide +kernel
theorem dX10_goesBehind_108 : decode cX10_goesBehind 108 = .ok (.getfield 213, 3) := by decide +kernel
theorem dX10_goesBehind_111 : decode cX10_goesBehind 111 = .ok (.ifCond .ne 7, 3) := by decide +kernel
theorem dX10_goesBehind_114 : decode cX10_goesBehind 114 = .ok (.aload_n 0, 1) := by decide +kernel
theorem dX10_goesBehind_115 : decode cX10_goesBehind 115 = .ok (.invokevirtual 207, 3) := by decide +kernel
theorem dX10_goesBehind_118 : decode cX10_goesBehind 118 = .ok (.iconst 0, 1) := by decide +kernel
theorem dX10_goesBehind_119 : decode cX10_goesBehind 119 = .ok (.ireturn, 1) := by decide +kernel
theorem dX10_condition_0 : decode cX10_condition 0 = .ok (.aload_n 0, 1) := by decide +kernel
theorem dX10_condition_1 : decode cX10_condition 1 = .ok (.iconst 0, 1) := by decide +kernel
theorem dX10_condition_2 : decode cX10_condition 2 = .ok (.putfield 213, 3) := by decide +kernel
theorem dX10_condition_5 : decode cX10_condition 5 = .ok (.aload_n 0, 1) := by decide +kernel
theorem dX10_condition_6 : decode cX10_condition 6 = .ok (.invokevirtual 150, 3) := by decide +kernel
theorem dX10_condition_9 : decode cX10_condition 9 = .ok (.bipush 40, 2) := by decide +kernel
theorem dX10_condition_11 : decode cX10_condition 11 = .ok (.if_icmp .eq 12, 3) := by decide +kernel
theorem dX10_condition_14 : decode cX10_condition 14 = .ok (.aload_n 0, 1) := by decide +kernel
theorem dX10_condition_15 : decode cX10_condition 15 = .ok (.iconst 1, 1) := by decide +kernel
theorem dX10_condition_16 : decode cX10_condition 16 = .ok (.aload_n 0, 1) := by decide +kernel
theorem dX10_condition_17 : decode cX10_condition 17 = .ok (.getfield 124, 3) := by decide +kernel
theorem dX10_condition_20 : decode cX10_condition 20 = .ok (.invokevirtual 146, 3) := by decide +kernel
theorem dX10_condition_23 : decode cX10_condition 23 = .ok (.aload_n 0, 1) := by decide +kernel
theorem dX10_condition_24 : decode cX10_condition 24 = .ok (.invokevirtual 133, 3) := by decide +kernel
theorem dX10_condition_27 : decode cX10_condition 27 = .ok (.ifCond .ne 4, 3) := by decide +kernel
theorem dX10_condition_30 : decode cX10_condition 30 = .ok (.return_, 1) := by decide +kernel
theorem dX10_condition_31 : decode cX10_condition 31 = .ok (.aload_n 0, 1) := by decide +kernel
theorem dX10_condition_32 : decode cX10_condition 32 = .ok (.invokevirtual 178, 3) := by decide +kernel
theorem dX10_condition_35 : decode cX10_condition 35 = .ok (.iconst 1, 1) := by decide +kernel
theorem dX10_condition_36 : decode cX10_condition 36 = .ok (.istore_n 1, 1) := by decide +kernel
theorem dX10_condition_37 : decode cX10_condition 37 = .ok (.aload_n 0, 1) := by decide +kernel
theorem dX10_condition_38 : decode cX10_condition 38 = .ok (.invokevirtual 133, 3) := by decide +kernel
theorem dX10_condition_41 : decode cX10_condition 41 = .ok (.ifCond .eq 33, 3) := by decide +kernel
theorem dX10_condition_44 : decode cX10_condition 44 = .ok (.aload_n 0, 1) := by decide +kernel
theorem dX10_condition_45 : decode cX10_condition 45 = .ok (.getfield 213, 3) := by decide +kernel
theorem dX10_condition_48 : decode cX10_condition 48 = .ok (.ifCond .ne 26, 3) := by decide +kernel
theorem dX10_condition_51 : decode cX10_condition 51 = .ok (.iload_n 1, 1) := by decide +kernel
theorem dX10_condition_52 : decode cX10_condition 52 = .ok (.ifCond .eq 7, 3) := by decide +kernel
theorem dX10_condition_55 : decode cX10_condition 55 = .ok (.aload_n 0, 1) := by decide +kernel
theorem dX10_condition_56 : decode cX10_condition 56 = .ok (.invokevirtual 216, 3) := by decide +kernel
theorem dX10_condition_59 : decode cX10_condition 59 = .ok (.aload_n 0, 1) := by decide +kernel
theorem dX10_condition_60 : decode cX10_condition 60 = .ok (.invokevirtual 133, 3) := by decide +kernel
theorem dX10_condition_63 : decode cX10_condition 63 = .ok (.ifCond .eq (-26), 3) := by decide +kernel
theorem dX10_condition_66 : decode cX10_condition 66 = .ok (.aload_n 0, 1) := by decide +kernel
theorem dX10_condition_67 : decode cX10_condition 67 = .ok (.invokevirtual 219, 3) := by decide +kernel
theorem dX10_condition_70 : decode cX10_condition 70 = .ok (.istore_n 1, 1) := by decide +kernel
theorem dX10_condition_71 : decode cX10_condition 71 = .ok (.goto (-34), 3) := by decide +kernel
theorem dX10_condition_74 : decode cX10_condition 74 = .ok (.return_, 1) := by decide +kernel
theorem dX10_clause_0 : decode cX10_clause 0 = .ok (.aload_n 0, 1) := by decide +kernel
theorem dX10_clause_1 : decode cX10_clause 1 = .ok (.invokevirtual 150, 3) := by decide +kernel
theorem dX10_clause_4 : decode cX10_clause 4 = .ok (.istore_n 1, 1) := by decide +kernel
theorem dX10_clause_5 : decode cX10_clause 5 = .ok (.iload_n 1, 1) := by decide +kernel
theorem dX10_clause_6 : decode cX10_clause 6 = .ok (.bipush 110, 2) := by decide +kernel
theorem dX10_clause_8 : decode cX10_clause 8 = .ok (.if_icmp .eq 27, 3) := by decide +kernel
theorem dX10_clause_11 : decode cX10_clause 11 = .ok (.iload_n 1, 1) := by decide +kernel
theorem dX10_clause_12 : decode cX10_clause 12 = .ok (.bipush 114, 2) := by decide +kernel
theorem dX10_clause_14 : decode cX10_clause 14 = .ok (.if_icmp .eq 21, 3) := by decide +kernel
theorem dX10_clause_17 : decode cX10_clause 17 = .ok (.iload_n 1, 1) := by decide +kernel
theorem dX10_clause_18 : decode cX10_clause 18 = .ok (.bipush 115, 2) := by decide +kernel
theorem dX10_clause_20 : decode cX10_clause 20 = .ok (.if_icmp .eq 15, 3) := by decide +kernel
theorem dX10_clause_23 : decode cX10_clause 23 = .ok (.aload_n 0, 1) := by decide +kernel
theorem dX10_clause_24 : decode cX10_clause 24 = .ok (.iconst 1, 1) := by decide +kernel
theorem dX10_clause_25 : decode cX10_clause 25 = .ok (.aload_n 0, 1) := by decide +kernel
theorem dX10_clause_26 : decode cX10_clause 26 = .ok (.getfield 124, 3) := by decide +kernel
theorem dX10_clause_29 : decode cX10_clause 29 = .ok (.invokevirtual 146, 3) := by decide +kernel
theorem dX10_clause_32 : decode cX10_clause 32 = .ok (.goto 21, 3) := by decide +kernel
theorem dX10_clause_35 : decode cX10_clause 35 = .ok (.aload_n 0, 1) := by decide +kernel
theorem dX10_clause_36 : decode cX10_clause 36 = .ok (.getfield 222, 3) := by decide +kernel
theorem dX10_clause_39 : decode cX10_clause 39 = .ok (.bipush 14, 2) := by decide +kernel
theorem dX10_clause_41 : decode cX10_clause 41 = .ok (.if_icmp .ne 12, 3) := by decide +kernel
theorem dX10_clause_44 : decode cX10_clause 44 = .ok (.aload_n 0, 1) := by decide +kernel
theorem dX10_clause_45 : decode cX10_clause 45 = .ok (.iconst 4, 1) := by decide +kernel
theorem dX10_clause_46 : decode cX10_clause 46 = .ok (.aload_n 0, 1) := by decide +kernel
theorem dX10_clause_47 : decode cX10_clause 47 = .ok (.getfield 124, 3) := by decide +kernel
theorem dX10_clause_50 : decode cX10_clause 50 = .ok (.invokevirtual 146, 3) := by decide +kernel
theorem dX10_clause_53 : decode cX10_clause 53 = .ok (.aload_n 0, 1) := by decide +kernel
theorem dX10_clause_54 : decode cX10_clause 54 = .ok (.invokevirtual 133, 3) := by decide +kernel
theorem dX10_clause_57 : decode cX10_clause 57 = .ok (.ifCond .ne 4, 3) := by decide +kernel
theorem dX10_clause_60 : decode cX10_clause 60 = .ok (.return_, 1) := by decide +kernel
theorem dX10_clause_61 : decode cX10_clause 61 = .ok (.aload_n 0, 1) := by decide +kernel
theorem dX10_clause_62 : decode cX10_clause 62 = .ok (.getfield 51, 3) := by decide +kernel
theorem dX10_clause_65 : decode cX10_clause 65 = .ok (.aload_n 0, 1) := by decide +kernel
theorem dX10_clause_66 : decode cX10_clause 66 = .ok (.getfield 222, 3) := by decide +kernel
theorem dX10_clause_69 : decode cX10_clause 69 = .ok (.iload_n 1, 1) := by decide +kernel
theorem dX10_clause_70 : decode cX10_clause 70 = .ok (.iastore, 1) := by decide +kernel
theorem dX10_clause_71 : decode cX10_clause 71 = .ok (.aload_n 0, 1) := by decide +kernel
theorem dX10_clause_72 : decode cX10_clause 72 = .ok (.getfield 54, 3) := by decide +kernel
theorem dX10_clause_75 : decode cX10_clause 75 = .ok (.aload_n 0, 1) := by decide +kernel
theorem dX10_clause_76 : decode cX10_clause 76 = .ok (.getfield 222, 3) := by decide +kernel
theorem dX10_clause_79 : decode cX10_clause 79 = .ok (.aload_n 0, 1) := by decide +kernel
theorem dX10_clause_80 : decode cX10_clause 80 = .ok (.getfield 137, 3) := by decide +kernel
theorem dX10_clause_83 : decode cX10_clause 83 = .ok (.iastore, 1) := by decide +kernel
theorem dX10_clause_84 : decode cX10_clause 84 = .ok (.aload_n 0, 1) := by decide +kernel
theorem dX10_clause_85 : decode cX10_clause 85 = .ok (.dup, 1) := by decide +kernel
theorem dX10_clause_86 : decode cX10_clause 86 = .ok (.getfield 124, 3) := by decide +kernel
theorem dX10_clause_89 : decode cX10_clause 89 = .ok (.iconst 1, 1) := by decide +kernel
theorem dX10_clause_90 : decode cX10_clause 90 = .ok (.iadd, 1) := by decide +kernel
theorem dX10_clause_91 : decode cX10_clause 91 = .ok (.putfield 124, 3) := by decide +kernel
theorem dX10_clause_94 : decode cX10_clause 94 = .ok (.aload_n 0, 1) := by decide +kernel
theorem dX10_clause_95 : decode cX10_clause 95 = .ok (.iconst 0, 1) := by decide +kernel
theorem dX10_clause_96 : decode cX10_clause 96 = .ok (.putfield 140, 3) := by decide +kernel
theorem dX10_clause_99 : decode cX10_clause 99 = .ok (.aload_n 0, 1) := by decide +kernel
theorem dX10_clause_100 : decode cX10_clause 100 = .ok (.iconst 0, 1) := by decide +kernel
theorem dX10_clause_101 : decode cX10_clause 101 = .ok (.putfield 143, 3) := by decide +kernel
theorem dX10_clause_104 : decode cX10_clause 104 = .ok (.iload_n 1, 1) := by decide +kernel
theorem dX10_clause_105 : decode cX10_clause 105 = .ok (.bipush 110, 2) := by decide +kernel
theorem dX10_clause_107 : decode cX10_clause 107 = .ok (.if_icmp .eq 7, 3) := by decide +kernel
theorem dX10_clause_110 : decode cX10_clause 110 = .ok (.aload_n 0, 1) := by decide +kernel
theorem dX10_clause_111 : decode cX10_clause 111 = .ok (.invokevirtual 201, 3) := by decide +kernel
theorem dX10_clause_114 : decode cX10_clause 114 = .ok (.aload_n 0, 1) := by decide +kernel
theorem dX10_clause_115 : decode cX10_clause 115 = .ok (.getfield 57, 3) := by decide +kernel
theorem dX10_clause_118 : decode cX10_clause 118 = .ok (.aload_n 0, 1) := by decide +kernel
theorem dX10_clause_119 : decode cX10_clause 119 = .ok (.getfield 222, 3) := by decide +kernel
theorem dX10_clause_122 : decode cX10_clause 122 = .ok (.aload_n 0, 1) := by decide +kernel
theorem dX10_clause_123 : decode cX10_clause 123 = .ok (.getfield 137, 3) := by decide +kernel
theorem dX10_clause_126 : decode cX10_clause 126 = .ok (.iastore, 1) := by decide +kernel
theorem dX10_clause_127 : decode cX10_clause 127 = .ok (.aload_n 0, 1) := by decide +kernel
theorem dX10_clause_128 : decode cX10_clause 128 = .ok (.invokevirtual 133, 3) := by decide +kernel
theorem dX10_clause_131 : decode cX10_clause 131 = .ok (.ifCond .eq 7, 3) := by decide +kernel
theorem dX10_clause_134 : decode cX10_clause 134 = .ok (.aload_n 0, 1) := by decide +kernel
theorem dX10_clause_135 : decode cX10_clause 135 = .ok (.invokevirtual 225, 3) := by decide +kernel
theorem dX10_clause_138 : decode cX10_clause 138 = .ok (.aload_n 0, 1) := by decide +kernel
theorem dX10_clause_139 : decode cX10_clause 139 = .ok (.getfield 60, 3) := by decide +kernel
theorem dX10_clause_142 : decode cX10_clause 142 = .ok (.aload_n 0, 1) := by decide +kernel
theorem dX10_clause_143 : decode cX10_clause 143 = .ok (.getfield 222, 3) := by decide +kernel
theorem dX10_clause_146 : decode cX10_clause 146 = .ok (.aload_n 0, 1) := by decide +kernel
theorem dX10_clause_147 : decode cX10_clause 147 = .ok (.getfield 137, 3) := by decide +kernel
theorem dX10_clause_150 : decode cX10_clause 150 = .ok (.iastore, 1) := by decide +kernel
theorem dX10_clause_151 : decode cX10_clause 151 = .ok (.aload_n 0, 1) := by decide +kernel
theorem dX10_clause_152 : decode cX10_clause 152 = .ok (.dup, 1) := by decide +kernel
theorem dX10_clause_153 : decode cX10_clause 153 = .ok (.getfield 222, 3) := by decide +kernel
theorem dX10_clause_156 : decode cX10_clause 156 = .ok (.iconst 1, 1) := by decide +kernel
theorem dX10_clause_157 : decode cX10_clause 157 = .ok (.iadd, 1) := by decide +kernel
theorem dX10_clause_158 : decode cX10_clause 158 = .ok (.putfield 222, 3) := by decide +kernel
theorem dX10_clause_161 : decode cX10_clause 161 = .ok (.return_, 1) := by decide +kernel
theorem dX10_law_0 : decode cX10_law 0 = .ok (.iload_n 1, 1) := by decide +kernel
theorem dX10_law_1 : decode cX10_law 1 = .ok (.i2l, 1) := by decide +kernel
theorem dX10_law_2 : decode cX10_law 2 = .ok (.lconst 1, 1) := by decide +kernel
theorem dX10_law_3 : decode cX10_law 3 = .ok (.ldc2_w 228, 3) := by decide +kernel
theorem dX10_law_6 : decode cX10_law 6 = .ok (.invokestatic 120, 3) := by decide +kernel
theorem dX10_law_9 : decode cX10_law 9 = .ok (.ifCond .eq 11, 3) := by decide +kernel
theorem dX10_law_12 : decode cX10_law 12 = .ok (.iload_n 1, 1) := by decide +kernel
theorem dX10_law_13 : decode cX10_law 13 = .ok (.aload_n 0, 1) := by decide +kernel
theorem dX10_law_14 : decode cX10_law 14 = .ok (.getfield 230, 3) := by decide +kernel
theorem dX10_law_17 : decode cX10_law 17 = .ok (.if_icmp .le 5, 3) := by decide +kernel
theorem dX10_law_20 : decode cX10_law 20 = .ok (.iconst (-1), 1) := by decide +kernel
theorem dX10_law_21 : decode cX10_law 21 = .ok (.ireturn, 1) := by decide +kernel
theorem dX10_law_22 : decode cX10_law 22 = .ok (.aload_n 0, 1) := by decide +kernel
theorem dX10_law_23 : decode cX10_law 23 = .ok (.iconst 0, 1) := by decide +kernel
theorem dX10_law_24 : decode cX10_law 24 = .ok (.putfield 230, 3) := by decide +kernel
theorem dX10_law_27 : decode cX10_law 27 = .ok (.aload_n 0, 1) := by decide +kernel
theorem dX10_law_28 : decode cX10_law 28 = .ok (.iconst 0, 1) := by decide +kernel
theorem dX10_law_29 : decode cX10_law 29 = .ok (.putfield 124, 3) := by decide +kernel
theorem dX10_law_32 : decode cX10_law 32 = .ok (.aload_n 0, 1) := by decide +kernel
theorem dX10_law_33 : decode cX10_law 33 = .ok (.iload_n 1, 1) := by decide +kernel
theorem dX10_law_34 : decode cX10_law 34 = .ok (.putfield 127, 3) := by decide +kernel
theorem dX10_law_37 : decode cX10_law 37 = .ok (.aload_n 0, 1) := by decide +kernel
theorem dX10_law_38 : decode cX10_law 38 = .ok (.iconst 0, 1) := by decide +kernel
theorem dX10_law_39 : decode cX10_law 39 = .ok (.putfield 130, 3) := by decide +kernel
theorem dX10_law_42 : decode cX10_law 42 = .ok (.aload_n 0, 1) := by decide +kernel
theorem dX10_law_43 : decode cX10_law 43 = .ok (.iconst 0, 1) := by decide +kernel
theorem dX10_law_44 : decode cX10_law 44 = .ok (.putfield 222, 3) := by decide +kernel
theorem dX10_law_47 : decode cX10_law 47 = .ok (.aload_n 0, 1) := by decide +kernel
theorem dX10_law_48 : decode cX10_law 48 = .ok (.iconst 0, 1) := by decide +kernel
theorem dX10_law_49 : decode cX10_law 49 = .ok (.putfield 137, 3) := by decide +kernel
theorem dX10_law_52 : decode cX10_law 52 = .ok (.iconst 1, 1) := by decide +kernel
theorem dX10_law_53 : decode cX10_law 53 = .ok (.istore_n 2, 1) := by decide +kernel
theorem dX10_law_54 : decode cX10_law 54 = .ok (.iload_n 2, 1) := by decide +kernel
theorem dX10_law_55 : decode cX10_law 55 = .ok (.ifCond .eq 73, 3) := by decide +kernel
theorem dX10_law_58 : decode cX10_law 58 = .ok (.aload_n 0, 1) := by decide +kernel
theorem dX10_law_59 : decode cX10_law 59 = .ok (.invokevirtual 133, 3) := by decide +kernel
theorem dX10_law_62 : decode cX10_law 62 = .ok (.ifCond .eq 66, 3) := by decide +kernel
theorem dX10_law_65 : decode cX10_law 65 = .ok (.aload_n 0, 1) := by decide +kernel
theorem dX10_law_66 : decode cX10_law 66 = .ok (.invokevirtual 233, 3) := by decide +kernel
theorem dX10_law_69 : decode cX10_law 69 = .ok (.aload_n 0, 1) := by decide +kernel
theorem dX10_law_70 : decode cX10_law 70 = .ok (.invokevirtual 133, 3) := by decide +kernel
theorem dX10_law_73 : decode cX10_law 73 = .ok (.ifCond .eq 18, 3) := by decide +kernel
theorem dX10_law_76 : decode cX10_law 76 = .ok (.aload_n 0, 1) := by decide +kernel
theorem dX10_law_77 : decode cX10_law 77 = .ok (.getfield 124, 3) := by decide +kernel
theorem dX10_law_80 : decode cX10_law 80 = .ok (.aload_n 0, 1) := by decide +kernel
theorem dX10_law_81 : decode cX10_law 81 = .ok (.getfield 127, 3) := by decide +kernel
theorem dX10_law_84 : decode cX10_law 84 = .ok (.if_icmp .ge 7, 3) := by decide +kernel
theorem dX10_law_87 : decode cX10_law 87 = .ok (.iconst 1, 1) := by decide +kernel
theorem dX10_law_88 : decode cX10_law 88 = .ok (.goto 4, 3) := by decide +kernel
theorem dX10_law_91 : decode cX10_law 91 = .ok (.iconst 0, 1) := by decide +kernel
theorem dX10_law_92 : decode cX10_law 92 = .ok (.istore_n 2, 1) := by decide +kernel
theorem dX10_law_93 : decode cX10_law 93 = .ok (.iload_n 2, 1) := by decide +kernel
theorem dX10_law_94 : decode cX10_law 94 = .ok (.ifCond .eq (-40), 3) := by decide +kernel
theorem dX10_law_97 : decode cX10_law 97 = .ok (.aload_n 0, 1) := by decide +kernel
theorem dX10_law_98 : decode cX10_law 98 = .ok (.invokevirtual 150, 3) := by decide +kernel
theorem dX10_law_101 : decode cX10_law 101 = .ok (.bipush 59, 2) := by decide +kernel
theorem dX10_law_103 : decode cX10_law 103 = .ok (.if_icmp .eq 12, 3) := by decide +kernel
theorem dX10_law_106 : decode cX10_law 106 = .ok (.aload_n 0, 1) := by decide +kernel
theorem dX10_law_107 : decode cX10_law 107 = .ok (.iconst 1, 1) := by decide +kernel
theorem dX10_law_108 : decode cX10_law 108 = .ok (.aload_n 0, 1) := by decide +kernel
theorem dX10_law_109 : decode cX10_law 109 = .ok (.getfield 124, 3) := by decide +kernel
theorem dX10_law_112 : decode cX10_law 112 = .ok (.invokevirtual 146, 3) := by decide +kernel
theorem dX10_law_115 : decode cX10_law 115 = .ok (.aload_n 0, 1) := by decide +kernel
theorem dX10_law_116 : decode cX10_law 116 = .ok (.dup, 1) := by decide +kernel
theorem dX10_law_117 : decode cX10_law 117 = .ok (.getfield 124, 3) := by decide +kernel
theorem dX10_law_120 : decode cX10_law 120 = .ok (.iconst 1, 1) := by decide +kernel
theorem dX10_law_121 : decode cX10_law 121 = .ok (.iadd, 1) := by decide +kernel
theorem dX10_law_122 : decode cX10_law 122 = .ok (.putfield 124, 3) := by decide +kernel
theorem dX10_law_125 : decode cX10_law 125 = .ok (.goto (-71), 3) := by decide +kernel
theorem dX10_law_128 : decode cX10_law 128 = .ok (.aload_n 0, 1) := by decide +kernel
theorem dX10_law_129 : decode cX10_law 129 = .ok (.getfield 130, 3) := by decide +kernel
theorem dX10_law_132 : decode cX10_law 132 = .ok (.ifCond .ge 8, 3) := by decide +kernel
theorem dX10_law_135 : decode cX10_law 135 = .ok (.aload_n 0, 1) := by decide +kernel
theorem dX10_law_136 : decode cX10_law 136 = .ok (.getfield 130, 3) := by decide +kernel
theorem dX10_law_139 : decode cX10_law 139 = .ok (.ireturn, 1) := by decide +kernel
theorem dX10_law_140 : decode cX10_law 140 = .ok (.iconst 0, 1) := by decide +kernel
theorem dX10_law_141 : decode cX10_law 141 = .ok (.istore_n 3, 1) := by decide +kernel
theorem dX10_law_142 : decode cX10_law 142 = .ok (.iload_n 3, 1) := by decide +kernel
theorem dX10_law_143 : decode cX10_law 143 = .ok (.aload_n 0, 1) := by decide +kernel
theorem dX10_law_144 : decode cX10_law 144 = .ok (.getfield 222, 3) := by decide +kernel
theorem dX10_law_147 : decode cX10_law 147 = .ok (.if_icmp .ge 57, 3) := by decide +kernel
theorem dX10_law_150 : decode cX10_law 150 = .ok (.aload_n 0, 1) := by decide +kernel
theorem dX10_law_151 : decode cX10_law 151 = .ok (.getfield 33, 3) := by decide +kernel
theorem dX10_law_154 : decode cX10_law 154 = .ok (.iload_n 3, 1) := by decide +kernel
theorem dX10_law_155 : decode cX10_law 155 = .ok (.aload_n 0, 1) := by decide +kernel
theorem dX10_law_156 : decode cX10_law 156 = .ok (.getfield 51, 3) := by decide +kernel
theorem dX10_law_159 : decode cX10_law 159 = .ok (.iload_n 3, 1) := by decide +kernel
theorem dX10_law_160 : decode cX10_law 160 = .ok (.iaload, 1) := by decide +kernel
theorem dX10_law_161 : decode cX10_law 161 = .ok (.iastore, 1) := by decide +kernel
theorem dX10_law_162 : decode cX10_law 162 = .ok (.aload_n 0, 1) := by decide +kernel
theorem dX10_law_163 : decode cX10_law 163 = .ok (.getfield 36, 3) := by decide +kernel
theorem dX10_law_166 : decode cX10_law 166 = .ok (.iload_n 3, 1) := by decide +kernel
theorem dX10_law_167 : decode cX10_law 167 = .ok (.aload_n 0, 1) := by decide +kernel
theorem dX10_law_168 : decode cX10_law 168 = .ok (.getfield 54, 3) := by decide +kernel
theorem dX10_law_171 : decode cX10_law 171 = .ok (.iload_n 3, 1) := by decide +kernel
theorem dX10_law_172 : decode cX10_law 172 = .ok (.iaload, 1) := by decide +kernel
theorem dX10_law_173 : decode cX10_law 173 = .ok (.iastore, 1) := by decide +kernel
theorem dX10_law_174 : decode cX10_law 174 = .ok (.aload_n 0, 1) := by decide +kernel
theorem dX10_law_175 : decode cX10_law 175 = .ok (.getfield 39, 3) := by decide +kernel
theorem dX10_law_178 : decode cX10_law 178 = .ok (.iload_n 3, 1) := by decide +kernel
theorem dX10_law_179 : decode cX10_law 179 = .ok (.aload_n 0, 1) := by decide +kernel
theorem dX10_law_180 : decode cX10_law 180 = .ok (.getfield 57, 3) := by decide +kernel
theorem dX10_law_183 : decode cX10_law 183 = .ok (.iload_n 3, 1) := by decide +kernel
theorem dX10_law_184 : decode cX10_law 184 = .ok (.iaload, 1) := by decide +kernel
theorem dX10_law_185 : decode cX10_law 185 = .ok (.iastore, 1) := by decide +kernel
theorem dX10_law_186 : decode cX10_law 186 = .ok (.aload_n 0, 1) := by decide +kernel
theorem dX10_law_187 : decode cX10_law 187 = .ok (.getfield 42, 3) := by decide +kernel
theorem dX10_law_190 : decode cX10_law 190 = .ok (.iload_n 3, 1) := by decide +kernel
theorem dX10_law_191 : decode cX10_law 191 = .ok (.aload_n 0, 1) := by decide +kernel
theorem dX10_law_192 : decode cX10_law 192 = .ok (.getfield 60, 3) := by decide +kernel
theorem dX10_law_195 : decode cX10_law 195 = .ok (.iload_n 3, 1) := by decide +kernel
theorem dX10_law_196 : decode cX10_law 196 = .ok (.iaload, 1) := by decide +kernel
theorem dX10_law_197 : decode cX10_law 197 = .ok (.iastore, 1) := by decide +kernel
theorem dX10_law_198 : decode cX10_law 198 = .ok (.iinc 3 1, 3) := by decide +kernel
theorem dX10_law_201 : decode cX10_law 201 = .ok (.goto (-59), 3) := by decide +kernel
theorem dX10_law_204 : decode cX10_law 204 = .ok (.iconst 0, 1) := by decide +kernel
theorem dX10_law_205 : decode cX10_law 205 = .ok (.istore_n 3, 1) := by decide +kernel
theorem dX10_law_206 : decode cX10_law 206 = .ok (.iload_n 3, 1) := by decide +kernel
theorem dX10_law_207 : decode cX10_law 207 = .ok (.aload_n 0, 1) := by decide +kernel
theorem dX10_law_208 : decode cX10_law 208 = .ok (.getfield 137, 3) := by decide +kernel
theorem dX10_law_211 : decode cX10_law 211 = .ok (.if_icmp .ge 33, 3) := by decide +kernel
theorem dX10_law_214 : decode cX10_law 214 = .ok (.aload_n 0, 1) := by decide +kernel
theorem dX10_law_215 : decode cX10_law 215 = .ok (.getfield 45, 3) := by decide +kernel
theorem dX10_law_218 : decode cX10_law 218 = .ok (.iload_n 3, 1) := by decide +kernel
theorem dX10_law_219 : decode cX10_law 219 = .ok (.aload_n 0, 1) := by decide +kernel
theorem dX10_law_220 : decode cX10_law 220 = .ok (.getfield 63, 3) := by decide +kernel
theorem dX10_law_223 : decode cX10_law 223 = .ok (.iload_n 3, 1) := by decide +kernel
theorem dX10_law_224 : decode cX10_law 224 = .ok (.iaload, 1) := by decide +kernel
theorem dX10_law_225 : decode cX10_law 225 = .ok (.iastore, 1) := by decide +kernel
theorem dX10_law_226 : decode cX10_law 226 = .ok (.aload_n 0, 1) := by decide +kernel
theorem dX10_law_227 : decode cX10_law 227 = .ok (.getfield 48, 3) := by decide +kernel
theorem dX10_law_230 : decode cX10_law 230 = .ok (.iload_n 3, 1) := by decide +kernel
theorem dX10_law_231 : decode cX10_law 231 = .ok (.aload_n 0, 1) := by decide +kernel
theorem dX10_law_232 : decode cX10_law 232 = .ok (.getfield 66, 3) := by decide +kernel
theorem dX10_law_235 : decode cX10_law 235 = .ok (.iload_n 3, 1) := by decide +kernel
theorem dX10_law_236 : decode cX10_law 236 = .ok (.iaload, 1) := by decide +kernel
theorem dX10_law_237 : decode cX10_law 237 = .ok (.iastore, 1) := by decide +kernel
theorem dX10_law_238 : decode cX10_law 238 = .ok (.iinc 3 1, 3) := by decide +kernel
theorem dX10_law_241 : decode cX10_law 241 = .ok (.goto (-35), 3) := by decide +kernel
theorem dX10_law_244 : decode cX10_law 244 = .ok (.aload_n 0, 1) := by decide +kernel
theorem dX10_law_245 : decode cX10_law 245 = .ok (.aload_n 0, 1) := by decide +kernel
theorem dX10_law_246 : decode cX10_law 246 = .ok (.getfield 222, 3) := by decide +kernel
theorem dX10_law_249 : decode cX10_law 249 = .ok (.putfield 236, 3) := by decide +kernel
theorem dX10_law_252 : decode cX10_law 252 = .ok (.aload_n 0, 1) := by decide +kernel
theorem dX10_law_253 : decode cX10_law 253 = .ok (.invokevirtual 114, 3) := by decide +kernel
theorem dX10_law_256 : decode cX10_law 256 = .ok (.aload_n 0, 1) := by decide +kernel
theorem dX10_law_257 : decode cX10_law 257 = .ok (.getfield 236, 3) := by decide +kernel
theorem dX10_law_260 : decode cX10_law 260 = .ok (.ireturn, 1) := by decide +kernel
theorem dX10_clearsLetters_0 : decode cX10_clearsLetters 0 = .ok (.aload_n 0, 1) := by decide +kernel
theorem dX10_clearsLetters_1 : decode cX10_clearsLetters 1 = .ok (.iconst 0, 1) := by decide +kernel
theorem dX10_clearsLetters_2 : decode cX10_clearsLetters 2 = .ok (.putfield 239, 3) := by decide +kernel
theorem dX10_clearsLetters_5 : decode cX10_clearsLetters 5 = .ok (.bipush 107, 2) := by decide +kernel
theorem dX10_clearsLetters_7 : decode cX10_clearsLetters 7 = .ok (.istore_n 1, 1) := by decide +kernel
theorem dX10_clearsLetters_8 : decode cX10_clearsLetters 8 = .ok (.iload_n 1, 1) := by decide +kernel
theorem dX10_clearsLetters_9 : decode cX10_clearsLetters 9 = .ok (.bipush 122, 2) := by decide +kernel
theorem dX10_clearsLetters_11 : decode cX10_clearsLetters 11 = .ok (.if_icmp .gt 16, 3) := by decide +kernel
theorem dX10_clearsLetters_14 : decode cX10_clearsLetters 14 = .ok (.aload_n 0, 1) := by decide +kernel
theorem dX10_clearsLetters_15 : decode cX10_clearsLetters 15 = .ok (.getfield 72, 3) := by decide +kernel
theorem dX10_clearsLetters_18 : decode cX10_clearsLetters 18 = .ok (.iload_n 1, 1) := by decide +kernel
theorem dX10_clearsLetters_19 : decode cX10_clearsLetters 19 = .ok (.iconst 0, 1) := by decide +kernel
theorem dX10_clearsLetters_20 : decode cX10_clearsLetters 20 = .ok (.iastore, 1) := by decide +kernel
theorem dX10_clearsLetters_21 : decode cX10_clearsLetters 21 = .ok (.iinc 1 1, 3) := by decide +kernel
theorem dX10_clearsLetters_24 : decode cX10_clearsLetters 24 = .ok (.goto (-16), 3) := by decide +kernel
theorem dX10_clearsLetters_27 : decode cX10_clearsLetters 27 = .ok (.return_, 1) := by decide +kernel
theorem dX10_valueOf_0 : decode cX10_valueOf 0 = .ok (.iload_n 1, 1) := by decide +kernel
theorem dX10_valueOf_1 : decode cX10_valueOf 1 = .ok (.bipush 106, 2) := by decide +kernel
theorem dX10_valueOf_3 : decode cX10_valueOf 3 = .ok (.if_icmp .gt 17, 3) := by decide +kernel
theorem dX10_valueOf_6 : decode cX10_valueOf 6 = .ok (.aload_n 0, 1) := by decide +kernel
theorem dX10_valueOf_7 : decode cX10_valueOf 7 = .ok (.getfield 239, 3) := by decide +kernel
theorem dX10_valueOf_10 : decode cX10_valueOf 10 = .ok (.iload_n 1, 1) := by decide +kernel
theorem dX10_valueOf_11 : decode cX10_valueOf 11 = .ok (.bipush 97, 2) := by decide +kernel
theorem dX10_valueOf_13 : decode cX10_valueOf 13 = .ok (.isub, 1) := by decide +kernel
theorem dX10_valueOf_14 : decode cX10_valueOf 14 = .ok (.ishr, 1) := by decide +kernel
theorem dX10_valueOf_15 : decode cX10_valueOf 15 = .ok (.iconst 1, 1) := by decide +kernel
theorem dX10_valueOf_16 : decode cX10_valueOf 16 = .ok (.iand, 1) := by decide +kernel
theorem dX10_valueOf_17 : decode cX10_valueOf 17 = .ok (.goto 9, 3) := by decide +kernel
theorem dX10_valueOf_20 : decode cX10_valueOf 20 = .ok (.aload_n 0, 1) := by decide +kernel
theorem dX10_valueOf_21 : decode cX10_valueOf 21 = .ok (.getfield 72, 3) := by decide +kernel
theorem dX10_valueOf_24 : decode cX10_valueOf 24 = .ok (.iload_n 1, 1) := by decide +kernel
theorem dX10_valueOf_25 : decode cX10_valueOf 25 = .ok (.iaload, 1) := by decide +kernel
theorem dX10_valueOf_26 : decode cX10_valueOf 26 = .ok (.ireturn, 1) := by decide +kernel
theorem dX10_worked_0 : decode cX10_worked 0 = .ok (.iload_n 0, 1) := by decide +kernel
theorem dX10_worked_1 : decode cX10_worked 1 = .ok (.lookupswitch 125 #[(37, 91), (42, 75), (43, 67), (45, 71), (47, 79), (60, 103), (62, 114)], 67) := by decide +kernel
theorem dX10_worked_68 : decode cX10_worked 68 = .ok (.iload_n 1, 1) := by decide +kernel
theorem dX10_worked_69 : decode cX10_worked 69 = .ok (.iload_n 2, 1) := by decide +kernel
theorem dX10_worked_70 : decode cX10_worked 70 = .ok (.iadd, 1) := by decide +kernel
theorem dX10_worked_71 : decode cX10_worked 71 = .ok (.ireturn, 1) := by decide +kernel
theorem dX10_worked_72 : decode cX10_worked 72 = .ok (.iload_n 1, 1) := by decide +kernel
theorem dX10_worked_73 : decode cX10_worked 73 = .ok (.iload_n 2, 1) := by decide +kernel
theorem dX10_worked_74 : decode cX10_worked 74 = .ok (.isub, 1) := by decide +kernel
theorem dX10_worked_75 : decode cX10_worked 75 = .ok (.ireturn, 1) := by decide +kernel
theorem dX10_worked_76 : decode cX10_worked 76 = .ok (.iload_n 1, 1) := by decide +kernel
theorem dX10_worked_77 : decode cX10_worked 77 = .ok (.iload_n 2, 1) := by decide +kernel
theorem dX10_worked_78 : decode cX10_worked 78 = .ok (.imul, 1) := by decide +kernel
theorem dX10_worked_79 : decode cX10_worked 79 = .ok (.ireturn, 1) := by decide +kernel
theorem dX10_worked_80 : decode cX10_worked 80 = .ok (.iload_n 2, 1) := by decide +kernel
theorem dX10_worked_81 : decode cX10_worked 81 = .ok (.ifCond .ne 7, 3) := by decide +kernel
theorem dX10_worked_84 : decode cX10_worked 84 = .ok (.iconst 0, 1) := by decide +kernel
theorem dX10_worked_85 : decode cX10_worked 85 = .ok (.goto 6, 3) := by decide +kernel
theorem dX10_worked_88 : decode cX10_worked 88 = .ok (.iload_n 1, 1) := by decide +kernel
theorem dX10_worked_89 : decode cX10_worked 89 = .ok (.iload_n 2, 1) := by decide +kernel
theorem dX10_worked_90 : decode cX10_worked 90 = .ok (.idiv, 1) := by decide +kernel
theorem dX10_worked_91 : decode cX10_worked 91 = .ok (.ireturn, 1) := by decide +kernel
theorem dX10_worked_92 : decode cX10_worked 92 = .ok (.iload_n 2, 1) := by decide +kernel
theorem dX10_worked_93 : decode cX10_worked 93 = .ok (.ifCond .ne 7, 3) := by decide +kernel
theorem dX10_worked_96 : decode cX10_worked 96 = .ok (.iconst 0, 1) := by decide +kernel
theorem dX10_worked_97 : decode cX10_worked 97 = .ok (.goto 6, 3) := by decide +kernel
theorem dX10_worked_100 : decode cX10_worked 100 = .ok (.iload_n 1, 1) := by decide +kernel
theorem dX10_worked_101 : decode cX10_worked 101 = .ok (.iload_n 2, 1) := by decide +kernel
theorem dX10_worked_102 : decode cX10_worked 102 = .ok (.irem, 1) := by decide +kernel
theorem dX10_worked_103 : decode cX10_worked 103 = .ok (.ireturn, 1) := by decide +kernel
theorem dX10_worked_104 : decode cX10_worked 104 = .ok (.iload_n 1, 1) := by decide +kernel
theorem dX10_worked_105 : decode cX10_worked 105 = .ok (.iload_n 2, 1) := by decide +kernel
theorem dX10_worked_106 : decode cX10_worked 106 = .ok (.if_icmp .ge 7, 3) := by decide +kernel
theorem dX10_worked_109 : decode cX10_worked 109 = .ok (.iconst 1, 1) := by decide +kernel
theorem dX10_worked_110 : decode cX10_worked 110 = .ok (.goto 4, 3) := by decide +kernel
theorem dX10_worked_113 : decode cX10_worked 113 = .ok (.iconst 0, 1) := by decide +kernel
theorem dX10_worked_114 : decode cX10_worked 114 = .ok (.ireturn, 1) := by decide +kernel
theorem dX10_worked_115 : decode cX10_worked 115 = .ok (.iload_n 1, 1) := by decide +kernel
theorem dX10_worked_116 : decode cX10_worked 116 = .ok (.iload_n 2, 1) := by decide +kernel
theorem dX10_worked_117 : decode cX10_worked 117 = .ok (.if_icmp .le 7, 3) := by decide +kernel
theorem dX10_worked_120 : decode cX10_worked 120 = .ok (.iconst 1, 1) := by decide +kernel
theorem dX10_worked_121 : decode cX10_worked 121 = .ok (.goto 4, 3) := by decide +kernel
theorem dX10_worked_124 : decode cX10_worked 124 = .ok (.iconst 0, 1) := by decide +kernel
theorem dX10_worked_125 : decode cX10_worked 125 = .ok (.ireturn, 1) := by decide +kernel
theorem dX10_worked_126 : decode cX10_worked 126 = .ok (.iload_n 1, 1) := by decide +kernel
theorem dX10_worked_127 : decode cX10_worked 127 = .ok (.iload_n 2, 1) := by decide +kernel
theorem dX10_worked_128 : decode cX10_worked 128 = .ok (.if_icmp .ne 7, 3) := by decide +kernel
theorem dX10_worked_131 : decode cX10_worked 131 = .ok (.iconst 1, 1) := by decide +kernel
theorem dX10_worked_132 : decode cX10_worked 132 = .ok (.goto 4, 3) := by decide +kernel
theorem dX10_worked_135 : decode cX10_worked 135 = .ok (.iconst 0, 1) := by decide +kernel
theorem dX10_worked_136 : decode cX10_worked 136 = .ok (.ireturn, 1) := by decide +kernel
theorem dX10_does_0 : decode cX10_does 0 = .ok (.iload_n 2, 1) := by decide +kernel
theorem dX10_does_1 : decode cX10_does 1 = .ok (.iconst 1, 1) := by decide +kernel
theorem dX10_does_2 : decode cX10_does 2 = .ok (.iadd, 1) := by decide +kernel
theorem dX10_does_3 : decode cX10_does 3 = .ok (.istore_n 3, 1) := by decide +kernel
theorem dX10_does_4 : decode cX10_does 4 = .ok (.iload_n 1, 1) := by decide +kernel
theorem dX10_does_5 : decode cX10_does 5 = .ok (.bipush 38, 2) := by decide +kernel
theorem dX10_does_7 : decode cX10_does 7 = .ok (.if_icmp .eq 9, 3) := by decide +kernel
theorem dX10_does_10 : decode cX10_does 10 = .ok (.iload_n 1, 1) := by decide +kernel
theorem dX10_does_11 : decode cX10_does 11 = .ok (.bipush 124, 2) := by decide +kernel
theorem dX10_does_13 : decode cX10_does 13 = .ok (.if_icmp .ne 58, 3) := by decide +kernel
theorem dX10_does_16 : decode cX10_does 16 = .ok (.aload_n 0, 1) := by decide +kernel
theorem dX10_does_17 : decode cX10_does 17 = .ok (.getfield 78, 3) := by decide +kernel
theorem dX10_does_20 : decode cX10_does 20 = .ok (.iload_n 2, 1) := by decide +kernel
theorem dX10_does_21 : decode cX10_does 21 = .ok (.baload, 1) := by decide +kernel
theorem dX10_does_22 : decode cX10_does 22 = .ok (.ifCond .ne 23, 3) := by decide +kernel
theorem dX10_does_25 : decode cX10_does 25 = .ok (.aload_n 0, 1) := by decide +kernel
theorem dX10_does_26 : decode cX10_does 26 = .ok (.getfield 75, 3) := by decide +kernel
theorem dX10_does_29 : decode cX10_does 29 = .ok (.iload_n 2, 1) := by decide +kernel
theorem dX10_does_30 : decode cX10_does 30 = .ok (.iaload, 1) := by decide +kernel
theorem dX10_does_31 : decode cX10_does 31 = .ok (.iload_n 1, 1) := by decide +kernel
theorem dX10_does_32 : decode cX10_does 32 = .ok (.bipush 38, 2) := by decide +kernel
theorem dX10_does_34 : decode cX10_does 34 = .ok (.if_icmp .ne 7, 3) := by decide +kernel
theorem dX10_does_37 : decode cX10_does 37 = .ok (.iconst 1, 1) := by decide +kernel
theorem dX10_does_38 : decode cX10_does 38 = .ok (.goto 4, 3) := by decide +kernel
theorem dX10_does_41 : decode cX10_does 41 = .ok (.iconst 0, 1) := by decide +kernel
theorem dX10_does_42 : decode cX10_does 42 = .ok (.if_icmp .eq 4, 3) := by decide +kernel
theorem dX10_does_45 : decode cX10_does 45 = .ok (.return_, 1) := by decide +kernel
theorem dX10_does_46 : decode cX10_does 46 = .ok (.aload_n 0, 1) := by decide +kernel
theorem dX10_does_47 : decode cX10_does 47 = .ok (.getfield 75, 3) := by decide +kernel
theorem dX10_does_50 : decode cX10_does 50 = .ok (.iload_n 2, 1) := by decide +kernel
theorem dX10_does_51 : decode cX10_does 51 = .ok (.aload_n 0, 1) := by decide +kernel
theorem dX10_does_52 : decode cX10_does 52 = .ok (.getfield 75, 3) := by decide +kernel
theorem dX10_does_55 : decode cX10_does 55 = .ok (.iload_n 3, 1) := by decide +kernel
theorem dX10_does_56 : decode cX10_does 56 = .ok (.iaload, 1) := by decide +kernel
theorem dX10_does_57 : decode cX10_does 57 = .ok (.iastore, 1) := by decide +kernel
theorem dX10_does_58 : decode cX10_does 58 = .ok (.aload_n 0, 1) := by decide +kernel
theorem dX10_does_59 : decode cX10_does 59 = .ok (.getfield 78, 3) := by decide +kernel
theorem dX10_does_62 : decode cX10_does 62 = .ok (.iload_n 2, 1) := by decide +kernel
theorem dX10_does_63 : decode cX10_does 63 = .ok (.aload_n 0, 1) := by decide +kernel
theorem dX10_does_64 : decode cX10_does 64 = .ok (.getfield 78, 3) := by decide +kernel
theorem dX10_does_67 : decode cX10_does 67 = .ok (.iload_n 3, 1) := by decide +kernel
theorem dX10_does_68 : decode cX10_does 68 = .ok (.baload, 1) := by decide +kernel
theorem dX10_does_69 : decode cX10_does 69 = .ok (.bastore, 1) := by decide +kernel
theorem dX10_does_70 : decode cX10_does 70 = .ok (.return_, 1) := by decide +kernel
theorem dX10_does_71 : decode cX10_does 71 = .ok (.aload_n 0, 1) := by decide +kernel
theorem dX10_does_72 : decode cX10_does 72 = .ok (.getfield 78, 3) := by decide +kernel
theorem dX10_does_75 : decode cX10_does 75 = .ok (.iload_n 2, 1) := by decide +kernel
theorem dX10_does_76 : decode cX10_does 76 = .ok (.aload_n 0, 1) := by decide +kernel
theorem dX10_does_77 : decode cX10_does 77 = .ok (.getfield 78, 3) := by decide +kernel
theorem dX10_does_80 : decode cX10_does 80 = .ok (.iload_n 2, 1) := by decide +kernel
theorem dX10_does_81 : decode cX10_does 81 = .ok (.baload, 1) := by decide +kernel
theorem dX10_does_82 : decode cX10_does 82 = .ok (.ifCond .ne 33, 3) := by decide +kernel
theorem dX10_does_85 : decode cX10_does 85 = .ok (.aload_n 0, 1) := by decide +kernel
theorem dX10_does_86 : decode cX10_does 86 = .ok (.getfield 78, 3) := by decide +kernel
theorem dX10_does_89 : decode cX10_does 89 = .ok (.iload_n 3, 1) := by decide +kernel
theorem dX10_does_90 : decode cX10_does 90 = .ok (.baload, 1) := by decide +kernel
theorem dX10_does_91 : decode cX10_does 91 = .ok (.ifCond .ne 24, 3) := by decide +kernel
theorem dX10_does_94 : decode cX10_does 94 = .ok (.iload_n 1, 1) := by decide +kernel
theorem dX10_does_95 : decode cX10_does 95 = .ok (.bipush 47, 2) := by decide +kernel
theorem dX10_does_97 : decode cX10_does 97 = .ok (.if_icmp .eq 9, 3) := by decide +kernel
theorem dX10_does_100 : decode cX10_does 100 = .ok (.iload_n 1, 1) := by decide +kernel
theorem dX10_does_101 : decode cX10_does 101 = .ok (.bipush 37, 2) := by decide +kernel
theorem dX10_does_103 : decode cX10_does 103 = .ok (.if_icmp .ne 16, 3) := by decide +kernel
theorem dX10_does_106 : decode cX10_does 106 = .ok (.aload_n 0, 1) := by decide +kernel
theorem dX10_does_107 : decode cX10_does 107 = .ok (.getfield 75, 3) := by decide +kernel
theorem dX10_does_110 : decode cX10_does 110 = .ok (.iload_n 3, 1) := by decide +kernel
theorem dX10_does_111 : decode cX10_does 111 = .ok (.iaload, 1) := by decide +kernel
theorem dX10_does_112 : decode cX10_does 112 = .ok (.ifCond .ne 7, 3) := by decide +kernel
theorem dX10_does_115 : decode cX10_does 115 = .ok (.iconst 1, 1) := by decide +kernel
theorem dX10_does_116 : decode cX10_does 116 = .ok (.goto 4, 3) := by decide +kernel
theorem dX10_does_119 : decode cX10_does 119 = .ok (.iconst 0, 1) := by decide +kernel
theorem dX10_does_120 : decode cX10_does 120 = .ok (.bastore, 1) := by decide +kernel
theorem dX10_does_121 : decode cX10_does 121 = .ok (.aload_n 0, 1) := by decide +kernel
theorem dX10_does_122 : decode cX10_does 122 = .ok (.getfield 75, 3) := by decide +kernel
theorem dX10_does_125 : decode cX10_does 125 = .ok (.iload_n 2, 1) := by decide +kernel
theorem dX10_does_126 : decode cX10_does 126 = .ok (.iload_n 1, 1) := by decide +kernel
theorem dX10_does_127 : decode cX10_does 127 = .ok (.aload_n 0, 1) := by decide +kernel
theorem dX10_does_128 : decode cX10_does 128 = .ok (.getfield 75, 3) := by decide +kernel
theorem dX10_does_131 : decode cX10_does 131 = .ok (.iload_n 2, 1) := by decide +kernel
theorem dX10_does_132 : decode cX10_does 132 = .ok (.iaload, 1) := by decide +kernel
theorem dX10_does_133 : decode cX10_does 133 = .ok (.aload_n 0, 1) := by decide +kernel
theorem dX10_does_134 : decode cX10_does 134 = .ok (.getfield 75, 3) := by decide +kernel
theorem dX10_does_137 : decode cX10_does 137 = .ok (.iload_n 3, 1) := by decide +kernel
theorem dX10_does_138 : decode cX10_does 138 = .ok (.iaload, 1) := by decide +kernel
theorem dX10_does_139 : decode cX10_does 139 = .ok (.invokestatic 242, 3) := by decide +kernel
theorem dX10_does_142 : decode cX10_does 142 = .ok (.iastore, 1) := by decide +kernel
theorem dX10_does_143 : decode cX10_does 143 = .ok (.return_, 1) := by decide +kernel
theorem dX10_works_0 : decode cX10_works 0 = .ok (.iconst 0, 1) := by decide +kernel
theorem dX10_works_1 : decode cX10_works 1 = .ok (.istore_n 3, 1) := by decide +kernel
theorem dX10_works_2 : decode cX10_works 2 = .ok (.iload_n 1, 1) := by decide +kernel
theorem dX10_works_3 : decode cX10_works 3 = .ok (.istore 4, 2) := by decide +kernel
theorem dX10_works_5 : decode cX10_works 5 = .ok (.iload 4, 2) := by decide +kernel
theorem dX10_works_7 : decode cX10_works 7 = .ok (.iload_n 2, 1) := by decide +kernel
theorem dX10_works_8 : decode cX10_works 8 = .ok (.if_icmp .ge 119, 3) := by decide +kernel
theorem dX10_works_11 : decode cX10_works 11 = .ok (.aload_n 0, 1) := by decide +kernel
theorem dX10_works_12 : decode cX10_works 12 = .ok (.getfield 45, 3) := by decide +kernel
theorem dX10_works_15 : decode cX10_works 15 = .ok (.iload 4, 2) := by decide +kernel
theorem dX10_works_17 : decode cX10_works 17 = .ok (.iaload, 1) := by decide +kernel
theorem dX10_works_18 : decode cX10_works 18 = .ok (.iconst 2, 1) := by decide +kernel
theorem dX10_works_19 : decode cX10_works 19 = .ok (.if_icmp .le 23, 3) := by decide +kernel
theorem dX10_works_22 : decode cX10_works 22 = .ok (.iinc 3 (-1), 3) := by decide +kernel
theorem dX10_works_25 : decode cX10_works 25 = .ok (.aload_n 0, 1) := by decide +kernel
theorem dX10_works_26 : decode cX10_works 26 = .ok (.aload_n 0, 1) := by decide +kernel
theorem dX10_works_27 : decode cX10_works 27 = .ok (.getfield 45, 3) := by decide +kernel
theorem dX10_works_30 : decode cX10_works 30 = .ok (.iload 4, 2) := by decide +kernel
theorem dX10_works_32 : decode cX10_works 32 = .ok (.iaload, 1) := by decide +kernel
theorem dX10_works_33 : decode cX10_works 33 = .ok (.iload_n 3, 1) := by decide +kernel
theorem dX10_works_34 : decode cX10_works 34 = .ok (.iconst 1, 1) := by decide +kernel
theorem dX10_works_35 : decode cX10_works 35 = .ok (.isub, 1) := by decide +kernel
theorem dX10_works_36 : decode cX10_works 36 = .ok (.invokevirtual 246, 3) := by decide +kernel
theorem dX10_works_39 : decode cX10_works 39 = .ok (.goto 82, 3) := by decide +kernel
theorem dX10_works_42 : decode cX10_works 42 = .ok (.aload_n 0, 1) := by decide +kernel
theorem dX10_works_43 : decode cX10_works 43 = .ok (.getfield 45, 3) := by decide +kernel
theorem dX10_works_46 : decode cX10_works 46 = .ok (.iload 4, 2) := by decide +kernel
theorem dX10_works_48 : decode cX10_works 48 = .ok (.iaload, 1) := by decide +kernel
theorem dX10_works_49 : decode cX10_works 49 = .ok (.iconst 2, 1) := by decide +kernel
theorem dX10_works_50 : decode cX10_works 50 = .ok (.if_icmp .ne 24, 3) := by decide +kernel
theorem dX10_works_53 : decode cX10_works 53 = .ok (.aload_n 0, 1) := by decide +kernel
theorem dX10_works_54 : decode cX10_works 54 = .ok (.getfield 75, 3) := by decide +kernel
theorem dX10_works_57 : decode cX10_works 57 = .ok (.iload_n 3, 1) := by decide +kernel
theorem dX10_works_58 : decode cX10_works 58 = .ok (.iconst 1, 1) := by decide +kernel
theorem dX10_works_59 : decode cX10_works 59 = .ok (.isub, 1) := by decide +kernel
theorem dX10_works_60 : decode cX10_works 60 = .ok (.iconst 1, 1) := by decide +kernel
theorem dX10_works_61 : decode cX10_works 61 = .ok (.aload_n 0, 1) := by decide +kernel
theorem dX10_works_62 : decode cX10_works 62 = .ok (.getfield 75, 3) := by decide +kernel
theorem dX10_works_65 : decode cX10_works 65 = .ok (.iload_n 3, 1) := by decide +kernel
theorem dX10_works_66 : decode cX10_works 66 = .ok (.iconst 1, 1) := by decide +kernel
theorem dX10_works_67 : decode cX10_works 67 = .ok (.isub, 1) := by decide +kernel
theorem dX10_works_68 : decode cX10_works 68 = .ok (.iaload, 1) := by decide +kernel
theorem dX10_works_69 : decode cX10_works 69 = .ok (.isub, 1) := by decide +kernel
theorem dX10_works_70 : decode cX10_works 70 = .ok (.iastore, 1) := by decide +kernel
theorem dX10_works_71 : decode cX10_works 71 = .ok (.goto 50, 3) := by decide +kernel
theorem dX10_works_74 : decode cX10_works 74 = .ok (.aload_n 0, 1) := by decide +kernel
theorem dX10_works_75 : decode cX10_works 75 = .ok (.getfield 78, 3) := by decide +kernel
theorem dX10_works_78 : decode cX10_works 78 = .ok (.iload_n 3, 1) := by decide +kernel
theorem dX10_works_79 : decode cX10_works 79 = .ok (.iconst 0, 1) := by decide +kernel
theorem dX10_works_80 : decode cX10_works 80 = .ok (.bastore, 1) := by decide +kernel
theorem dX10_works_81 : decode cX10_works 81 = .ok (.aload_n 0, 1) := by decide +kernel
theorem dX10_works_82 : decode cX10_works 82 = .ok (.getfield 75, 3) := by decide +kernel
theorem dX10_works_85 : decode cX10_works 85 = .ok (.iload_n 3, 1) := by decide +kernel
theorem dX10_works_86 : decode cX10_works 86 = .ok (.aload_n 0, 1) := by decide +kernel
theorem dX10_works_87 : decode cX10_works 87 = .ok (.getfield 45, 3) := by decide +kernel
theorem dX10_works_90 : decode cX10_works 90 = .ok (.iload 4, 2) := by decide +kernel
theorem dX10_works_92 : decode cX10_works 92 = .ok (.iaload, 1) := by decide +kernel
theorem dX10_works_93 : decode cX10_works 93 = .ok (.ifCond .ne 13, 3) := by decide +kernel
theorem dX10_works_96 : decode cX10_works 96 = .ok (.aload_n 0, 1) := by decide +kernel
theorem dX10_works_97 : decode cX10_works 97 = .ok (.getfield 48, 3) := by decide +kernel
theorem dX10_works_100 : decode cX10_works 100 = .ok (.iload 4, 2) := by decide +kernel
theorem dX10_works_102 : decode cX10_works 102 = .ok (.iaload, 1) := by decide +kernel
theorem dX10_works_103 : decode cX10_works 103 = .ok (.goto 14, 3) := by decide +kernel
theorem dX10_works_106 : decode cX10_works 106 = .ok (.aload_n 0, 1) := by decide +kernel
theorem dX10_works_107 : decode cX10_works 107 = .ok (.aload_n 0, 1) := by decide +kernel
theorem dX10_works_108 : decode cX10_works 108 = .ok (.getfield 48, 3) := by decide +kernel
theorem dX10_works_111 : decode cX10_works 111 = .ok (.iload 4, 2) := by decide +kernel
theorem dX10_works_113 : decode cX10_works 113 = .ok (.iaload, 1) := by decide +kernel
theorem dX10_works_114 : decode cX10_works 114 = .ok (.invokevirtual 249, 3) := by decide +kernel
theorem dX10_works_117 : decode cX10_works 117 = .ok (.iastore, 1) := by decide +kernel
theorem dX10_works_118 : decode cX10_works 118 = .ok (.iinc 3 1, 3) := by decide +kernel
theorem dX10_works_121 : decode cX10_works 121 = .ok (.iinc 4 1, 3) := by decide +kernel
theorem dX10_works_124 : decode cX10_works 124 = .ok (.goto (-119), 3) := by decide +kernel
theorem dX10_works_127 : decode cX10_works 127 = .ok (.return_, 1) := by decide +kernel
theorem dX10_holds_0 : decode cX10_holds 0 = .ok (.aload_n 0, 1) := by decide +kernel
theorem dX10_holds_1 : decode cX10_holds 1 = .ok (.aload_n 0, 1) := by decide +kernel
theorem dX10_holds_2 : decode cX10_holds 2 = .ok (.getfield 39, 3) := by decide +kernel
theorem dX10_holds_5 : decode cX10_holds 5 = .ok (.iload_n 1, 1) := by decide +kernel
theorem dX10_holds_6 : decode cX10_holds 6 = .ok (.iaload, 1) := by decide +kernel
theorem dX10_holds_7 : decode cX10_holds 7 = .ok (.aload_n 0, 1) := by decide +kernel
theorem dX10_holds_8 : decode cX10_holds 8 = .ok (.getfield 42, 3) := by decide +kernel
theorem dX10_holds_11 : decode cX10_holds 11 = .ok (.iload_n 1, 1) := by decide +kernel
theorem dX10_holds_12 : decode cX10_holds 12 = .ok (.iaload, 1) := by decide +kernel
theorem dX10_holds_13 : decode cX10_holds 13 = .ok (.invokevirtual 253, 3) := by decide +kernel
theorem dX10_holds_16 : decode cX10_holds 16 = .ok (.aload_n 0, 1) := by decide +kernel
theorem dX10_holds_17 : decode cX10_holds 17 = .ok (.getfield 78, 3) := by decide +kernel
theorem dX10_holds_20 : decode cX10_holds 20 = .ok (.iconst 0, 1) := by decide +kernel
theorem dX10_holds_21 : decode cX10_holds 21 = .ok (.baload, 1) := by decide +kernel
theorem dX10_holds_22 : decode cX10_holds 22 = .ok (.ifCond .ne 17, 3) := by decide +kernel
theorem dX10_holds_25 : decode cX10_holds 25 = .ok (.aload_n 0, 1) := by decide +kernel
theorem dX10_holds_26 : decode cX10_holds 26 = .ok (.getfield 75, 3) := by decide +kernel
theorem dX10_holds_29 : decode cX10_holds 29 = .ok (.iconst 0, 1) := by decide +kernel
theorem dX10_holds_30 : decode cX10_holds 30 = .ok (.iaload, 1) := by decide +kernel
theorem dX10_holds_31 : decode cX10_holds 31 = .ok (.iconst 1, 1) := by decide +kernel
theorem dX10_holds_32 : decode cX10_holds 32 = .ok (.if_icmp .ne 7, 3) := by decide +kernel
theorem dX10_holds_35 : decode cX10_holds 35 = .ok (.iconst 1, 1) := by decide +kernel
theorem dX10_holds_36 : decode cX10_holds 36 = .ok (.goto 4, 3) := by decide +kernel
theorem dX10_holds_39 : decode cX10_holds 39 = .ok (.iconst 0, 1) := by decide +kernel
theorem dX10_holds_40 : decode cX10_holds 40 = .ok (.ireturn, 1) := by decide +kernel
theorem dX10_tellsBy_0 : decode cX10_tellsBy 0 = .ok (.iconst 0, 1) := by decide +kernel
theorem dX10_tellsBy_1 : decode cX10_tellsBy 1 = .ok (.istore_n 3, 1) := by decide +kernel
theorem dX10_tellsBy_2 : decode cX10_tellsBy 2 = .ok (.iload_n 3, 1) := by decide +kernel
theorem dX10_tellsBy_3 : decode cX10_tellsBy 3 = .ok (.aload_n 0, 1) := by decide +kernel
theorem dX10_tellsBy_4 : decode cX10_tellsBy 4 = .ok (.getfield 236, 3) := by decide +kernel
theorem dX10_tellsBy_7 : decode cX10_tellsBy 7 = .ok (.if_icmp .ge 89, 3) := by decide +kernel
theorem dX10_tellsBy_10 : decode cX10_tellsBy 10 = .ok (.aload_n 0, 1) := by decide +kernel
theorem dX10_tellsBy_11 : decode cX10_tellsBy 11 = .ok (.getfield 33, 3) := by decide +kernel
theorem dX10_tellsBy_14 : decode cX10_tellsBy 14 = .ok (.iload_n 3, 1) := by decide +kernel
theorem dX10_tellsBy_15 : decode cX10_tellsBy 15 = .ok (.iaload, 1) := by decide +kernel
theorem dX10_tellsBy_16 : decode cX10_tellsBy 16 = .ok (.iload_n 1, 1) := by decide +kernel
theorem dX10_tellsBy_17 : decode cX10_tellsBy 17 = .ok (.if_icmp .ne 73, 3) := by decide +kernel
theorem dX10_tellsBy_20 : decode cX10_tellsBy 20 = .ok (.aload_n 0, 1) := by decide +kernel
theorem dX10_tellsBy_21 : decode cX10_tellsBy 21 = .ok (.iload_n 3, 1) := by decide +kernel
theorem dX10_tellsBy_22 : decode cX10_tellsBy 22 = .ok (.invokevirtual 256, 3) := by decide +kernel
theorem dX10_tellsBy_25 : decode cX10_tellsBy 25 = .ok (.ifCond .ne 6, 3) := by decide +kernel
theorem dX10_tellsBy_28 : decode cX10_tellsBy 28 = .ok (.goto 62, 3) := by decide +kernel
theorem dX10_tellsBy_31 : decode cX10_tellsBy 31 = .ok (.aload_n 0, 1) := by decide +kernel
theorem dX10_tellsBy_32 : decode cX10_tellsBy 32 = .ok (.aload_n 0, 1) := by decide +kernel
theorem dX10_tellsBy_33 : decode cX10_tellsBy 33 = .ok (.getfield 36, 3) := by decide +kernel
theorem dX10_tellsBy_36 : decode cX10_tellsBy 36 = .ok (.iload_n 3, 1) := by decide +kernel
theorem dX10_tellsBy_37 : decode cX10_tellsBy 37 = .ok (.iaload, 1) := by decide +kernel
theorem dX10_tellsBy_38 : decode cX10_tellsBy 38 = .ok (.aload_n 0, 1) := by decide +kernel
theorem dX10_tellsBy_39 : decode cX10_tellsBy 39 = .ok (.getfield 39, 3) := by decide +kernel
theorem dX10_tellsBy_42 : decode cX10_tellsBy 42 = .ok (.iload_n 3, 1) := by decide +kernel
theorem dX10_tellsBy_43 : decode cX10_tellsBy 43 = .ok (.iaload, 1) := by decide +kernel
theorem dX10_tellsBy_44 : decode cX10_tellsBy 44 = .ok (.invokevirtual 253, 3) := by decide +kernel
theorem dX10_tellsBy_47 : decode cX10_tellsBy 47 = .ok (.aload_n 0, 1) := by decide +kernel
theorem dX10_tellsBy_48 : decode cX10_tellsBy 48 = .ok (.getfield 78, 3) := by decide +kernel
theorem dX10_tellsBy_51 : decode cX10_tellsBy 51 = .ok (.iconst 0, 1) := by decide +kernel
theorem dX10_tellsBy_52 : decode cX10_tellsBy 52 = .ok (.baload, 1) := by decide +kernel
theorem dX10_tellsBy_53 : decode cX10_tellsBy 53 = .ok (.ifCond .eq 7, 3) := by decide +kernel
theorem dX10_tellsBy_56 : decode cX10_tellsBy 56 = .ok (.iconst 0, 1) := by decide +kernel
theorem dX10_tellsBy_57 : decode cX10_tellsBy 57 = .ok (.goto 9, 3) := by decide +kernel
theorem dX10_tellsBy_60 : decode cX10_tellsBy 60 = .ok (.aload_n 0, 1) := by decide +kernel
theorem dX10_tellsBy_61 : decode cX10_tellsBy 61 = .ok (.getfield 75, 3) := by decide +kernel
theorem dX10_tellsBy_64 : decode cX10_tellsBy 64 = .ok (.iconst 0, 1) := by decide +kernel
theorem dX10_tellsBy_65 : decode cX10_tellsBy 65 = .ok (.iaload, 1) := by decide +kernel
theorem dX10_tellsBy_66 : decode cX10_tellsBy 66 = .ok (.istore 4, 2) := by decide +kernel
theorem dX10_tellsBy_68 : decode cX10_tellsBy 68 = .ok (.iload 4, 2) := by decide +kernel
theorem dX10_tellsBy_70 : decode cX10_tellsBy 70 = .ok (.ifCond .ge 7, 3) := by decide +kernel
theorem dX10_tellsBy_73 : decode cX10_tellsBy 73 = .ok (.iconst 0, 1) := by decide +kernel
theorem dX10_tellsBy_74 : decode cX10_tellsBy 74 = .ok (.goto 15, 3) := by decide +kernel
theorem dX10_tellsBy_77 : decode cX10_tellsBy 77 = .ok (.iload 4, 2) := by decide +kernel
theorem dX10_tellsBy_79 : decode cX10_tellsBy 79 = .ok (.iload_n 2, 1) := by decide +kernel
theorem dX10_tellsBy_80 : decode cX10_tellsBy 80 = .ok (.if_icmp .le 7, 3) := by decide +kernel
theorem dX10_tellsBy_83 : decode cX10_tellsBy 83 = .ok (.iload_n 2, 1) := by decide +kernel
theorem dX10_tellsBy_84 : decode cX10_tellsBy 84 = .ok (.goto 5, 3) := by decide +kernel
theorem dX10_tellsBy_87 : decode cX10_tellsBy 87 = .ok (.iload 4, 2) := by decide +kernel
theorem dX10_tellsBy_89 : decode cX10_tellsBy 89 = .ok (.ireturn, 1) := by decide +kernel
theorem dX10_tellsBy_90 : decode cX10_tellsBy 90 = .ok (.iinc 3 1, 3) := by decide +kernel
theorem dX10_tellsBy_93 : decode cX10_tellsBy 93 = .ok (.goto (-91), 3) := by decide +kernel
theorem dX10_tellsBy_96 : decode cX10_tellsBy 96 = .ok (.iconst 0, 1) := by decide +kernel
theorem dX10_tellsBy_97 : decode cX10_tellsBy 97 = .ok (.ireturn, 1) := by decide +kernel
theorem dX10_canBe_0 : decode cX10_canBe 0 = .ok (.aload_n 0, 1) := by decide +kernel
theorem dX10_canBe_1 : decode cX10_canBe 1 = .ok (.invokevirtual 259, 3) := by decide +kernel
theorem dX10_canBe_4 : decode cX10_canBe 4 = .ok (.aload_n 0, 1) := by decide +kernel
theorem dX10_canBe_5 : decode cX10_canBe 5 = .ok (.iload_n 1, 1) := by decide +kernel
theorem dX10_canBe_6 : decode cX10_canBe 6 = .ok (.putfield 239, 3) := by decide +kernel
theorem dX10_canBe_9 : decode cX10_canBe 9 = .ok (.iconst 0, 1) := by decide +kernel
theorem dX10_canBe_10 : decode cX10_canBe 10 = .ok (.istore_n 2, 1) := by decide +kernel
theorem dX10_canBe_11 : decode cX10_canBe 11 = .ok (.iload_n 2, 1) := by decide +kernel
theorem dX10_canBe_12 : decode cX10_canBe 12 = .ok (.aload_n 0, 1) := by decide +kernel
theorem dX10_canBe_13 : decode cX10_canBe 13 = .ok (.getfield 236, 3) := by decide +kernel
theorem dX10_canBe_16 : decode cX10_canBe 16 = .ok (.if_icmp .ge 30, 3) := by decide +kernel
theorem dX10_canBe_19 : decode cX10_canBe 19 = .ok (.aload_n 0, 1) := by decide +kernel
theorem dX10_canBe_20 : decode cX10_canBe 20 = .ok (.getfield 33, 3) := by decide +kernel
theorem dX10_canBe_23 : decode cX10_canBe 23 = .ok (.iload_n 2, 1) := by decide +kernel
theorem dX10_canBe_24 : decode cX10_canBe 24 = .ok (.iaload, 1) := by decide +kernel
theorem dX10_canBe_25 : decode cX10_canBe 25 = .ok (.bipush 110, 2) := by decide +kernel
theorem dX10_canBe_27 : decode cX10_canBe 27 = .ok (.if_icmp .ne 13, 3) := by decide +kernel
theorem dX10_canBe_30 : decode cX10_canBe 30 = .ok (.aload_n 0, 1) := by decide +kernel
theorem dX10_canBe_31 : decode cX10_canBe 31 = .ok (.iload_n 2, 1) := by decide +kernel
theorem dX10_canBe_32 : decode cX10_canBe 32 = .ok (.invokevirtual 256, 3) := by decide +kernel
theorem dX10_canBe_35 : decode cX10_canBe 35 = .ok (.ifCond .eq 5, 3) := by decide +kernel
theorem dX10_canBe_38 : decode cX10_canBe 38 = .ok (.iconst 0, 1) := by decide +kernel
theorem dX10_canBe_39 : decode cX10_canBe 39 = .ok (.ireturn, 1) := by decide +kernel
theorem dX10_canBe_40 : decode cX10_canBe 40 = .ok (.iinc 2 1, 3) := by decide +kernel
theorem dX10_canBe_43 : decode cX10_canBe 43 = .ok (.goto (-32), 3) := by decide +kernel
theorem dX10_canBe_46 : decode cX10_canBe 46 = .ok (.iconst 1, 1) := by decide +kernel
theorem dX10_canBe_47 : decode cX10_canBe 47 = .ok (.ireturn, 1) := by decide +kernel
theorem dX10_startsAnew_0 : decode cX10_startsAnew 0 = .ok (.aload_n 0, 1) := by decide +kernel
theorem dX10_startsAnew_1 : decode cX10_startsAnew 1 = .ok (.iconst 0, 1) := by decide +kernel
theorem dX10_startsAnew_2 : decode cX10_startsAnew 2 = .ok (.putfield 262, 3) := by decide +kernel
theorem dX10_startsAnew_5 : decode cX10_startsAnew 5 = .ok (.iconst 0, 1) := by decide +kernel
theorem dX10_startsAnew_6 : decode cX10_startsAnew 6 = .ok (.istore_n 1, 1) := by decide +kernel
theorem dX10_startsAnew_7 : decode cX10_startsAnew 7 = .ok (.iload_n 1, 1) := by decide +kernel
theorem dX10_startsAnew_8 : decode cX10_startsAnew 8 = .ok (.iconst 5, 1) := by decide +kernel
theorem dX10_startsAnew_9 : decode cX10_startsAnew 9 = .ok (.if_icmp .ge 16, 3) := by decide +kernel
theorem dX10_startsAnew_12 : decode cX10_startsAnew 12 = .ok (.aload_n 0, 1) := by decide +kernel
theorem dX10_startsAnew_13 : decode cX10_startsAnew 13 = .ok (.getfield 30, 3) := by decide +kernel
theorem dX10_startsAnew_16 : decode cX10_startsAnew 16 = .ok (.iload_n 1, 1) := by decide +kernel
theorem dX10_startsAnew_17 : decode cX10_startsAnew 17 = .ok (.iconst 0, 1) := by decide +kernel
theorem dX10_startsAnew_18 : decode cX10_startsAnew 18 = .ok (.iastore, 1) := by decide +kernel
theorem dX10_startsAnew_19 : decode cX10_startsAnew 19 = .ok (.iinc 1 1, 3) := by decide +kernel
theorem dX10_startsAnew_22 : decode cX10_startsAnew 22 = .ok (.goto (-15), 3) := by decide +kernel
theorem dX10_startsAnew_25 : decode cX10_startsAnew 25 = .ok (.iconst 0, 1) := by decide +kernel
theorem dX10_startsAnew_26 : decode cX10_startsAnew 26 = .ok (.istore_n 1, 1) := by decide +kernel
theorem dX10_startsAnew_27 : decode cX10_startsAnew 27 = .ok (.iload_n 1, 1) := by decide +kernel
theorem dX10_startsAnew_28 : decode cX10_startsAnew 28 = .ok (.sipush 1024, 3) := by decide +kernel
theorem dX10_startsAnew_31 : decode cX10_startsAnew 31 = .ok (.if_icmp .ge 36, 3) := by decide +kernel
theorem dX10_startsAnew_34 : decode cX10_startsAnew 34 = .ok (.aload_n 0, 1) := by decide +kernel
theorem dX10_startsAnew_35 : decode cX10_startsAnew 35 = .ok (.getfield 83, 3) := by decide +kernel
theorem dX10_startsAnew_38 : decode cX10_startsAnew 38 = .ok (.iload_n 1, 1) := by decide +kernel
theorem dX10_startsAnew_39 : decode cX10_startsAnew 39 = .ok (.iload_n 1, 1) := by decide +kernel
theorem dX10_startsAnew_40 : decode cX10_startsAnew 40 = .ok (.aload_n 0, 1) := by decide +kernel
theorem dX10_startsAnew_41 : decode cX10_startsAnew 41 = .ok (.invokevirtual 265, 3) := by decide +kernel
theorem dX10_startsAnew_44 : decode cX10_startsAnew 44 = .ok (.if_icmp .ge 15, 3) := by decide +kernel
theorem dX10_startsAnew_47 : decode cX10_startsAnew 47 = .ok (.aload_n 0, 1) := by decide +kernel
theorem dX10_startsAnew_48 : decode cX10_startsAnew 48 = .ok (.iload_n 1, 1) := by decide +kernel
theorem dX10_startsAnew_49 : decode cX10_startsAnew 49 = .ok (.invokevirtual 268, 3) := by decide +kernel
theorem dX10_startsAnew_52 : decode cX10_startsAnew 52 = .ok (.ifCond .eq 7, 3) := by decide +kernel
theorem dX10_startsAnew_55 : decode cX10_startsAnew 55 = .ok (.iconst 1, 1) := by decide +kernel
theorem dX10_startsAnew_56 : decode cX10_startsAnew 56 = .ok (.goto 4, 3) := by decide +kernel
theorem dX10_startsAnew_59 : decode cX10_startsAnew 59 = .ok (.iconst 0, 1) := by decide +kernel
theorem dX10_startsAnew_60 : decode cX10_startsAnew 60 = .ok (.bastore, 1) := by decide +kernel
theorem dX10_startsAnew_61 : decode cX10_startsAnew 61 = .ok (.iinc 1 1, 3) := by decide +kernel
theorem dX10_startsAnew_64 : decode cX10_startsAnew 64 = .ok (.goto (-37), 3) := by decide +kernel
theorem dX10_startsAnew_67 : decode cX10_startsAnew 67 = .ok (.return_, 1) := by decide +kernel
theorem dX10_isLeftNow_0 : decode cX10_isLeftNow 0 = .ok (.aload_n 0, 1) := by decide +kernel
theorem dX10_isLeftNow_1 : decode cX10_isLeftNow 1 = .ok (.getfield 83, 3) := by decide +kernel
theorem dX10_isLeftNow_4 : decode cX10_isLeftNow 4 = .ok (.sipush 1024, 3) := by decide +kernel
theorem dX10_isLeftNow_7 : decode cX10_isLeftNow 7 = .ok (.aload_n 0, 1) := by decide +kernel
theorem dX10_isLeftNow_8 : decode cX10_isLeftNow 8 = .ok (.getfield 262, 3) := by decide +kernel
theorem dX10_isLeftNow_11 : decode cX10_isLeftNow 11 = .ok (.imul, 1) := by decide +kernel
theorem dX10_isLeftNow_12 : decode cX10_isLeftNow 12 = .ok (.iload_n 1, 1) := by decide +kernel
theorem dX10_isLeftNow_13 : decode cX10_isLeftNow 13 = .ok (.iadd, 1) := by decide +kernel
theorem dX10_isLeftNow_14 : decode cX10_isLeftNow 14 = .ok (.baload, 1) := by decide +kernel
theorem dX10_isLeftNow_15 : decode cX10_isLeftNow 15 = .ok (.ireturn, 1) := by decide +kernel
theorem dX10_leftMany_0 : decode cX10_leftMany 0 = .ok (.iconst 0, 1) := by decide +kernel
theorem dX10_leftMany_1 : decode cX10_leftMany 1 = .ok (.istore_n 1, 1) := by decide +kernel
theorem dX10_leftMany_2 : decode cX10_leftMany 2 = .ok (.iconst 0, 1) := by decide +kernel
theorem dX10_leftMany_3 : decode cX10_leftMany 3 = .ok (.istore_n 2, 1) := by decide +kernel
theorem dX10_leftMany_4 : decode cX10_leftMany 4 = .ok (.iload_n 2, 1) := by decide +kernel
theorem dX10_leftMany_5 : decode cX10_leftMany 5 = .ok (.aload_n 0, 1) := by decide +kernel
theorem dX10_leftMany_6 : decode cX10_leftMany 6 = .ok (.invokevirtual 265, 3) := by decide +kernel
theorem dX10_leftMany_9 : decode cX10_leftMany 9 = .ok (.if_icmp .ge 25, 3) := by decide +kernel
theorem dX10_leftMany_12 : decode cX10_leftMany 12 = .ok (.iload_n 1, 1) := by decide +kernel
theorem dX10_leftMany_13 : decode cX10_leftMany 13 = .ok (.aload_n 0, 1) := by decide +kernel
theorem dX10_leftMany_14 : decode cX10_leftMany 14 = .ok (.iload_n 2, 1) := by decide +kernel
theorem dX10_leftMany_15 : decode cX10_leftMany 15 = .ok (.invokevirtual 271, 3) := by decide +kernel
theorem dX10_leftMany_18 : decode cX10_leftMany 18 = .ok (.ifCond .eq 7, 3) := by decide +kernel
theorem dX10_leftMany_21 : decode cX10_leftMany 21 = .ok (.iconst 1, 1) := by decide +kernel
theorem dX10_leftMany_22 : decode cX10_leftMany 22 = .ok (.goto 4, 3) := by decide +kernel
theorem dX10_leftMany_25 : decode cX10_leftMany 25 = .ok (.iconst 0, 1) := by decide +kernel
theorem dX10_leftMany_26 : decode cX10_leftMany 26 = .ok (.iadd, 1) := by decide +kernel
theorem dX10_leftMany_27 : decode cX10_leftMany 27 = .ok (.istore_n 1, 1) := by decide +kernel
theorem dX10_leftMany_28 : decode cX10_leftMany 28 = .ok (.iinc 2 1, 3) := by decide +kernel
theorem dX10_leftMany_31 : decode cX10_leftMany 31 = .ok (.goto (-27), 3) := by decide +kernel
theorem dX10_leftMany_34 : decode cX10_leftMany 34 = .ok (.iload_n 1, 1) := by decide +kernel
theorem dX10_leftMany_35 : decode cX10_leftMany 35 = .ok (.ireturn, 1) := by decide +kernel
theorem dX10_facts_0 : decode cX10_facts 0 = .ok (.iload_n 1, 1) := by decide +kernel
theorem dX10_facts_1 : decode cX10_facts 1 = .ok (.i2l, 1) := by decide +kernel
theorem dX10_facts_2 : decode cX10_facts 2 = .ok (.lconst 1, 1) := by decide +kernel
theorem dX10_facts_3 : decode cX10_facts 3 = .ok (.ldc2_w 274, 3) := by decide +kernel
theorem dX10_facts_6 : decode cX10_facts 6 = .ok (.invokestatic 120, 3) := by decide +kernel
theorem dX10_facts_9 : decode cX10_facts 9 = .ok (.ifCond .ne 5, 3) := by decide +kernel
theorem dX10_facts_12 : decode cX10_facts 12 = .ok (.iconst (-1), 1) := by decide +kernel
theorem dX10_facts_13 : decode cX10_facts 13 = .ok (.ireturn, 1) := by decide +kernel
theorem dX10_facts_14 : decode cX10_facts 14 = .ok (.aload_n 0, 1) := by decide +kernel
theorem dX10_facts_15 : decode cX10_facts 15 = .ok (.iload_n 1, 1) := by decide +kernel
theorem dX10_facts_16 : decode cX10_facts 16 = .ok (.putfield 13, 3) := by decide +kernel
theorem dX10_facts_19 : decode cX10_facts 19 = .ok (.aload_n 0, 1) := by decide +kernel
theorem dX10_facts_20 : decode cX10_facts 20 = .ok (.dup, 1) := by decide +kernel
theorem dX10_facts_21 : decode cX10_facts 21 = .ok (.getfield 276, 3) := by decide +kernel
theorem dX10_facts_24 : decode cX10_facts 24 = .ok (.aload_n 0, 1) := by decide +kernel
theorem dX10_facts_25 : decode cX10_facts 25 = .ok (.invokevirtual 265, 3) := by decide +kernel
theorem dX10_facts_28 : decode cX10_facts 28 = .ok (.iconst 1, 1) := by decide +kernel
theorem dX10_facts_29 : decode cX10_facts 29 = .ok (.isub, 1) := by decide +kernel
theorem dX10_facts_30 : decode cX10_facts 30 = .ok (.iand, 1) := by decide +kernel
theorem dX10_facts_31 : decode cX10_facts 31 = .ok (.putfield 276, 3) := by decide +kernel
theorem dX10_facts_34 : decode cX10_facts 34 = .ok (.aload_n 0, 1) := by decide +kernel
theorem dX10_facts_35 : decode cX10_facts 35 = .ok (.invokevirtual 114, 3) := by decide +kernel
theorem dX10_facts_38 : decode cX10_facts 38 = .ok (.aload_n 0, 1) := by decide +kernel
theorem dX10_facts_39 : decode cX10_facts 39 = .ok (.invokevirtual 279, 3) := by decide +kernel
theorem dX10_facts_42 : decode cX10_facts 42 = .ok (.ireturn, 1) := by decide +kernel
theorem dX10_truth_0 : decode cX10_truth 0 = .ok (.iload_n 1, 1) := by decide +kernel
theorem dX10_truth_1 : decode cX10_truth 1 = .ok (.i2l, 1) := by decide +kernel
theorem dX10_truth_2 : decode cX10_truth 2 = .ok (.lconst 0, 1) := by decide +kernel
theorem dX10_truth_3 : decode cX10_truth 3 = .ok (.aload_n 0, 1) := by decide +kernel
theorem dX10_truth_4 : decode cX10_truth 4 = .ok (.invokevirtual 265, 3) := by decide +kernel
theorem dX10_truth_7 : decode cX10_truth 7 = .ok (.iconst 1, 1) := by decide +kernel
theorem dX10_truth_8 : decode cX10_truth 8 = .ok (.isub, 1) := by decide +kernel
theorem dX10_truth_9 : decode cX10_truth 9 = .ok (.i2l, 1) := by decide +kernel
theorem dX10_truth_10 : decode cX10_truth 10 = .ok (.invokestatic 120, 3) := by decide +kernel
theorem dX10_truth_13 : decode cX10_truth 13 = .ok (.ifCond .ne 5, 3) := by decide +kernel
theorem dX10_truth_16 : decode cX10_truth 16 = .ok (.iconst 0, 1) := by decide +kernel
theorem dX10_truth_17 : decode cX10_truth 17 = .ok (.ireturn, 1) := by decide +kernel
theorem dX10_truth_18 : decode cX10_truth 18 = .ok (.aload_n 0, 1) := by decide +kernel
theorem dX10_truth_19 : decode cX10_truth 19 = .ok (.iload_n 1, 1) := by decide +kernel
theorem dX10_truth_20 : decode cX10_truth 20 = .ok (.putfield 276, 3) := by decide +kernel
theorem dX10_truth_23 : decode cX10_truth 23 = .ok (.iconst 1, 1) := by decide +kernel
theorem dX10_truth_24 : decode cX10_truth 24 = .ok (.ireturn, 1) := by decide +kernel
theorem dX10_person_0 : decode cX10_person 0 = .ok (.aload_n 0, 1) := by decide +kernel
theorem dX10_person_1 : decode cX10_person 1 = .ok (.getfield 117, 3) := by decide +kernel
theorem dX10_person_4 : decode cX10_person 4 = .ok (.iconst 5, 1) := by decide +kernel
theorem dX10_person_5 : decode cX10_person 5 = .ok (.if_icmp .eq 15, 3) := by decide +kernel
theorem dX10_person_8 : decode cX10_person 8 = .ok (.iload_n 1, 1) := by decide +kernel
theorem dX10_person_9 : decode cX10_person 9 = .ok (.i2l, 1) := by decide +kernel
theorem dX10_person_10 : decode cX10_person 10 = .ok (.lconst 0, 1) := by decide +kernel
theorem dX10_person_11 : decode cX10_person 11 = .ok (.ldc2_w 282, 3) := by decide +kernel
theorem dX10_person_14 : decode cX10_person 14 = .ok (.invokestatic 120, 3) := by decide +kernel
theorem dX10_person_17 : decode cX10_person 17 = .ok (.ifCond .ne 5, 3) := by decide +kernel
theorem dX10_person_20 : decode cX10_person 20 = .ok (.iconst (-1), 1) := by decide +kernel
theorem dX10_person_21 : decode cX10_person 21 = .ok (.ireturn, 1) := by decide +kernel
theorem dX10_person_22 : decode cX10_person 22 = .ok (.aload_n 0, 1) := by decide +kernel
theorem dX10_person_23 : decode cX10_person 23 = .ok (.getfield 20, 3) := by decide +kernel
theorem dX10_person_26 : decode cX10_person 26 = .ok (.aload_n 0, 1) := by decide +kernel
theorem dX10_person_27 : decode cX10_person 27 = .ok (.getfield 117, 3) := by decide +kernel
theorem dX10_person_30 : decode cX10_person 30 = .ok (.iload_n 1, 1) := by decide +kernel
theorem dX10_person_31 : decode cX10_person 31 = .ok (.iastore, 1) := by decide +kernel
theorem dX10_person_32 : decode cX10_person 32 = .ok (.aload_n 0, 1) := by decide +kernel
theorem dX10_person_33 : decode cX10_person 33 = .ok (.dup, 1) := by decide +kernel
theorem dX10_person_34 : decode cX10_person 34 = .ok (.getfield 117, 3) := by decide +kernel
theorem dX10_person_37 : decode cX10_person 37 = .ok (.iconst 1, 1) := by decide +kernel
theorem dX10_person_38 : decode cX10_person 38 = .ok (.iadd, 1) := by decide +kernel
theorem dX10_person_39 : decode cX10_person 39 = .ok (.putfield 117, 3) := by decide +kernel
theorem dX10_person_42 : decode cX10_person 42 = .ok (.aload_n 0, 1) := by decide +kernel
theorem dX10_person_43 : decode cX10_person 43 = .ok (.getfield 117, 3) := by decide +kernel
theorem dX10_person_46 : decode cX10_person 46 = .ok (.iconst 1, 1) := by decide +kernel
theorem dX10_person_47 : decode cX10_person 47 = .ok (.isub, 1) := by decide +kernel
theorem dX10_person_48 : decode cX10_person 48 = .ok (.ireturn, 1) := by decide +kernel
theorem dX10_knows_0 : decode cX10_knows 0 = .ok (.aload_n 0, 1) := by decide +kernel
theorem dX10_knows_1 : decode cX10_knows 1 = .ok (.iload_n 1, 1) := by decide +kernel
theorem dX10_knows_2 : decode cX10_knows 2 = .ok (.invokevirtual 284, 3) := by decide +kernel
theorem dX10_knows_5 : decode cX10_knows 5 = .ok (.ifCond .eq 15, 3) := by decide +kernel
theorem dX10_knows_8 : decode cX10_knows 8 = .ok (.iload_n 2, 1) := by decide +kernel
theorem dX10_knows_9 : decode cX10_knows 9 = .ok (.i2l, 1) := by decide +kernel
theorem dX10_knows_10 : decode cX10_knows 10 = .ok (.lconst 0, 1) := by decide +kernel
theorem dX10_knows_11 : decode cX10_knows 11 = .ok (.ldc2_w 287, 3) := by decide +kernel
theorem dX10_knows_14 : decode cX10_knows 14 = .ok (.invokestatic 120, 3) := by decide +kernel
theorem dX10_knows_17 : decode cX10_knows 17 = .ok (.ifCond .ne 5, 3) := by decide +kernel
theorem dX10_knows_20 : decode cX10_knows 20 = .ok (.iconst 0, 1) := by decide +kernel
theorem dX10_knows_21 : decode cX10_knows 21 = .ok (.ireturn, 1) := by decide +kernel
theorem dX10_knows_22 : decode cX10_knows 22 = .ok (.aload_n 0, 1) := by decide +kernel
theorem dX10_knows_23 : decode cX10_knows 23 = .ok (.getfield 24, 3) := by decide +kernel
theorem dX10_knows_26 : decode cX10_knows 26 = .ok (.iload_n 1, 1) := by decide +kernel
theorem dX10_knows_27 : decode cX10_knows 27 = .ok (.iload_n 2, 1) := by decide +kernel
theorem dX10_knows_28 : decode cX10_knows 28 = .ok (.iastore, 1) := by decide +kernel
theorem dX10_knows_29 : decode cX10_knows 29 = .ok (.iconst 1, 1) := by decide +kernel
theorem dX10_knows_30 : decode cX10_knows 30 = .ok (.ireturn, 1) := by decide +kernel
theorem dX10_harmPlace_0 : decode cX10_harmPlace 0 = .ok (.bipush 10, 2) := by decide +kernel
theorem dX10_harmPlace_2 : decode cX10_harmPlace 2 = .ok (.iload_n 0, 1) := by decide +kernel
theorem dX10_harmPlace_3 : decode cX10_harmPlace 3 = .ok (.imul, 1) := by decide +kernel
theorem dX10_harmPlace_4 : decode cX10_harmPlace 4 = .ok (.iload_n 1, 1) := by decide +kernel
theorem dX10_harmPlace_5 : decode cX10_harmPlace 5 = .ok (.iadd, 1) := by decide +kernel
theorem dX10_harmPlace_6 : decode cX10_harmPlace 6 = .ok (.iconst 2, 1) := by decide +kernel
theorem dX10_harmPlace_7 : decode cX10_harmPlace 7 = .ok (.imul, 1) := by decide +kernel
theorem dX10_harmPlace_8 : decode cX10_harmPlace 8 = .ok (.iload_n 2, 1) := by decide +kernel
theorem dX10_harmPlace_9 : decode cX10_harmPlace 9 = .ok (.iadd, 1) := by decide +kernel
theorem dX10_harmPlace_10 : decode cX10_harmPlace 10 = .ok (.ireturn, 1) := by decide +kernel
theorem dX10_harm_0 : decode cX10_harm 0 = .ok (.aload_n 0, 1) := by decide +kernel
theorem dX10_harm_1 : decode cX10_harm 1 = .ok (.iload_n 1, 1) := by decide +kernel
theorem dX10_harm_2 : decode cX10_harm 2 = .ok (.invokevirtual 284, 3) := by decide +kernel
theorem dX10_harm_5 : decode cX10_harm 5 = .ok (.ifCond .eq 38, 3) := by decide +kernel
theorem dX10_harm_8 : decode cX10_harm 8 = .ok (.iload_n 2, 1) := by decide +kernel
theorem dX10_harm_9 : decode cX10_harm 9 = .ok (.i2l, 1) := by decide +kernel
theorem dX10_harm_10 : decode cX10_harm 10 = .ok (.lconst 0, 1) := by decide +kernel
theorem dX10_harm_11 : decode cX10_harm 11 = .ok (.ldc2_w 289, 3) := by decide +kernel
theorem dX10_harm_14 : decode cX10_harm 14 = .ok (.invokestatic 120, 3) := by decide +kernel
theorem dX10_harm_17 : decode cX10_harm 17 = .ok (.ifCond .eq 26, 3) := by decide +kernel
theorem dX10_harm_20 : decode cX10_harm 20 = .ok (.iload_n 3, 1) := by decide +kernel
theorem dX10_harm_21 : decode cX10_harm 21 = .ok (.i2l, 1) := by decide +kernel
theorem dX10_harm_22 : decode cX10_harm 22 = .ok (.lconst 0, 1) := by decide +kernel
theorem dX10_harm_23 : decode cX10_harm 23 = .ok (.lconst 1, 1) := by decide +kernel
theorem dX10_harm_24 : decode cX10_harm 24 = .ok (.invokestatic 120, 3) := by decide +kernel
theorem dX10_harm_27 : decode cX10_harm 27 = .ok (.ifCond .eq 16, 3) := by decide +kernel
theorem dX10_harm_30 : decode cX10_harm 30 = .ok (.iload 4, 2) := by decide +kernel
theorem dX10_harm_32 : decode cX10_harm 32 = .ok (.i2l, 1) := by decide +kernel
theorem dX10_harm_33 : decode cX10_harm 33 = .ok (.lconst 0, 1) := by decide +kernel
theorem dX10_harm_34 : decode cX10_harm 34 = .ok (.ldc2_w 282, 3) := by decide +kernel
theorem dX10_harm_37 : decode cX10_harm 37 = .ok (.invokestatic 120, 3) := by decide +kernel
theorem dX10_harm_40 : decode cX10_harm 40 = .ok (.ifCond .ne 5, 3) := by decide +kernel
theorem dX10_harm_43 : decode cX10_harm 43 = .ok (.iconst 0, 1) := by decide +kernel
theorem dX10_harm_44 : decode cX10_harm 44 = .ok (.ireturn, 1) := by decide +kernel
theorem dX10_harm_45 : decode cX10_harm 45 = .ok (.aload_n 0, 1) := by decide +kernel
theorem dX10_harm_46 : decode cX10_harm 46 = .ok (.getfield 27, 3) := by decide +kernel
theorem dX10_harm_49 : decode cX10_harm 49 = .ok (.iload_n 1, 1) := by decide +kernel
theorem dX10_harm_50 : decode cX10_harm 50 = .ok (.iload_n 2, 1) := by decide +kernel
theorem dX10_harm_51 : decode cX10_harm 51 = .ok (.iload_n 3, 1) := by decide +kernel
theorem dX10_harm_52 : decode cX10_harm 52 = .ok (.invokestatic 291, 3) := by decide +kernel
theorem dX10_harm_55 : decode cX10_harm 55 = .ok (.iload 4, 2) := by decide +kernel
theorem dX10_harm_57 : decode cX10_harm 57 = .ok (.iastore, 1) := by decide +kernel
theorem dX10_harm_58 : decode cX10_harm 58 = .ok (.iconst 1, 1) := by decide +kernel
theorem dX10_harm_59 : decode cX10_harm 59 = .ok (.ireturn, 1) := by decide +kernel
theorem dX10_push_0 : decode cX10_push 0 = .ok (.bipush 24, 2) := by decide +kernel
theorem dX10_push_2 : decode cX10_push 2 = .ok (.istore_n 2, 1) := by decide +kernel
theorem dX10_push_3 : decode cX10_push 3 = .ok (.iload_n 2, 1) := by decide +kernel
theorem dX10_push_4 : decode cX10_push 4 = .ok (.ifCond .lt 32, 3) := by decide +kernel
theorem dX10_push_7 : decode cX10_push 7 = .ok (.aload_n 0, 1) := by decide +kernel
theorem dX10_push_8 : decode cX10_push 8 = .ok (.getfield 7, 3) := by decide +kernel
theorem dX10_push_11 : decode cX10_push 11 = .ok (.aload_n 0, 1) := by decide +kernel
theorem dX10_push_12 : decode cX10_push 12 = .ok (.getfield 230, 3) := by decide +kernel
theorem dX10_push_15 : decode cX10_push 15 = .ok (.iload_n 1, 1) := by decide +kernel
theorem dX10_push_16 : decode cX10_push 16 = .ok (.iload_n 2, 1) := by decide +kernel
theorem dX10_push_17 : decode cX10_push 17 = .ok (.ishr, 1) := by decide +kernel
theorem dX10_push_18 : decode cX10_push 18 = .ok (.i2b, 1) := by decide +kernel
theorem dX10_push_19 : decode cX10_push 19 = .ok (.bastore, 1) := by decide +kernel
theorem dX10_push_20 : decode cX10_push 20 = .ok (.aload_n 0, 1) := by decide +kernel
theorem dX10_push_21 : decode cX10_push 21 = .ok (.dup, 1) := by decide +kernel
theorem dX10_push_22 : decode cX10_push 22 = .ok (.getfield 230, 3) := by decide +kernel
theorem dX10_push_25 : decode cX10_push 25 = .ok (.iconst 1, 1) := by decide +kernel
theorem dX10_push_26 : decode cX10_push 26 = .ok (.iadd, 1) := by decide +kernel
theorem dX10_push_27 : decode cX10_push 27 = .ok (.putfield 230, 3) := by decide +kernel
theorem dX10_push_30 : decode cX10_push 30 = .ok (.iinc 2 (-8), 3) := by decide +kernel
theorem dX10_push_33 : decode cX10_push 33 = .ok (.goto (-30), 3) := by decide +kernel
theorem dX10_push_36 : decode cX10_push 36 = .ok (.return_, 1) := by decide +kernel
theorem dX10_feed_0 : decode cX10_feed 0 = .ok (.aload_n 0, 1) := by decide +kernel
theorem dX10_feed_1 : decode cX10_feed 1 = .ok (.getfield 230, 3) := by decide +kernel
theorem dX10_feed_4 : decode cX10_feed 4 = .ok (.bipush 20, 2) := by decide +kernel
theorem dX10_feed_6 : decode cX10_feed 6 = .ok (.iadd, 1) := by decide +kernel
theorem dX10_feed_7 : decode cX10_feed 7 = .ok (.sipush 220, 3) := by decide +kernel
theorem dX10_feed_10 : decode cX10_feed 10 = .ok (.if_icmp .le 5, 3) := by decide +kernel
theorem dX10_feed_13 : decode cX10_feed 13 = .ok (.iconst (-1), 1) := by decide +kernel
theorem dX10_feed_14 : decode cX10_feed 14 = .ok (.ireturn, 1) := by decide +kernel
theorem dX10_feed_15 : decode cX10_feed 15 = .ok (.aload_n 0, 1) := by decide +kernel
theorem dX10_feed_16 : decode cX10_feed 16 = .ok (.iload_n 1, 1) := by decide +kernel
theorem dX10_feed_17 : decode cX10_feed 17 = .ok (.invokevirtual 294, 3) := by decide +kernel
theorem dX10_feed_20 : decode cX10_feed 20 = .ok (.aload_n 0, 1) := by decide +kernel
theorem dX10_feed_21 : decode cX10_feed 21 = .ok (.iload_n 2, 1) := by decide +kernel
theorem dX10_feed_22 : decode cX10_feed 22 = .ok (.invokevirtual 294, 3) := by decide +kernel
theorem dX10_feed_25 : decode cX10_feed 25 = .ok (.aload_n 0, 1) := by decide +kernel
theorem dX10_feed_26 : decode cX10_feed 26 = .ok (.iload_n 3, 1) := by decide +kernel
theorem dX10_feed_27 : decode cX10_feed 27 = .ok (.invokevirtual 294, 3) := by decide +kernel
theorem dX10_feed_30 : decode cX10_feed 30 = .ok (.aload_n 0, 1) := by decide +kernel
theorem dX10_feed_31 : decode cX10_feed 31 = .ok (.iload 4, 2) := by decide +kernel
theorem dX10_feed_33 : decode cX10_feed 33 = .ok (.invokevirtual 294, 3) := by decide +kernel
theorem dX10_feed_36 : decode cX10_feed 36 = .ok (.aload_n 0, 1) := by decide +kernel
theorem dX10_feed_37 : decode cX10_feed 37 = .ok (.iload 5, 2) := by decide +kernel
theorem dX10_feed_39 : decode cX10_feed 39 = .ok (.invokevirtual 294, 3) := by decide +kernel
theorem dX10_feed_42 : decode cX10_feed 42 = .ok (.aload_n 0, 1) := by decide +kernel
theorem dX10_feed_43 : decode cX10_feed 43 = .ok (.getfield 230, 3) := by decide +kernel
theorem dX10_feed_46 : decode cX10_feed 46 = .ok (.ireturn, 1) := by decide +kernel
theorem dX10_knowing_0 : decode cX10_knowing 0 = .ok (.iconst 0, 1) := by decide +kernel
theorem dX10_knowing_1 : decode cX10_knowing 1 = .ok (.istore_n 2, 1) := by decide +kernel
theorem dX10_knowing_2 : decode cX10_knowing 2 = .ok (.iconst 0, 1) := by decide +kernel
theorem dX10_knowing_3 : decode cX10_knowing 3 = .ok (.istore_n 3, 1) := by decide +kernel
theorem dX10_knowing_4 : decode cX10_knowing 4 = .ok (.iload_n 3, 1) := by decide +kernel
theorem dX10_knowing_5 : decode cX10_knowing 5 = .ok (.aload_n 0, 1) := by decide +kernel
theorem dX10_knowing_6 : decode cX10_knowing 6 = .ok (.getfield 117, 3) := by decide +kernel
theorem dX10_knowing_9 : decode cX10_knowing 9 = .ok (.if_icmp .ge 30, 3) := by decide +kernel
theorem dX10_knowing_12 : decode cX10_knowing 12 = .ok (.iload_n 2, 1) := by decide +kernel
theorem dX10_knowing_13 : decode cX10_knowing 13 = .ok (.aload_n 0, 1) := by decide +kernel
theorem dX10_knowing_14 : decode cX10_knowing 14 = .ok (.getfield 24, 3) := by decide +kernel
theorem dX10_knowing_17 : decode cX10_knowing 17 = .ok (.iload_n 3, 1) := by decide +kernel
theorem dX10_knowing_18 : decode cX10_knowing 18 = .ok (.iaload, 1) := by decide +kernel
theorem dX10_knowing_19 : decode cX10_knowing 19 = .ok (.iload_n 1, 1) := by decide +kernel
theorem dX10_knowing_20 : decode cX10_knowing 20 = .ok (.invokestatic 297, 3) := by decide +kernel
theorem dX10_knowing_23 : decode cX10_knowing 23 = .ok (.ifCond .eq 7, 3) := by decide +kernel
theorem dX10_knowing_26 : decode cX10_knowing 26 = .ok (.iconst 1, 1) := by decide +kernel
theorem dX10_knowing_27 : decode cX10_knowing 27 = .ok (.goto 4, 3) := by decide +kernel
theorem dX10_knowing_30 : decode cX10_knowing 30 = .ok (.iconst 0, 1) := by decide +kernel
theorem dX10_knowing_31 : decode cX10_knowing 31 = .ok (.iadd, 1) := by decide +kernel
theorem dX10_knowing_32 : decode cX10_knowing 32 = .ok (.istore_n 2, 1) := by decide +kernel
theorem dX10_knowing_33 : decode cX10_knowing 33 = .ok (.iinc 3 1, 3) := by decide +kernel
theorem dX10_knowing_36 : decode cX10_knowing 36 = .ok (.goto (-32), 3) := by decide +kernel
theorem dX10_knowing_39 : decode cX10_knowing 39 = .ok (.iload_n 2, 1) := by decide +kernel
theorem dX10_knowing_40 : decode cX10_knowing 40 = .ok (.ireturn, 1) := by decide +kernel
theorem dX10_isWilling_0 : decode cX10_isWilling 0 = .ok (.aload_n 0, 1) := by decide +kernel
theorem dX10_isWilling_1 : decode cX10_isWilling 1 = .ok (.invokevirtual 259, 3) := by decide +kernel
theorem dX10_isWilling_4 : decode cX10_isWilling 4 = .ok (.aload_n 0, 1) := by decide +kernel
theorem dX10_isWilling_5 : decode cX10_isWilling 5 = .ok (.getfield 72, 3) := by decide +kernel
theorem dX10_isWilling_8 : decode cX10_isWilling 8 = .ok (.bipush 112, 2) := by decide +kernel
theorem dX10_isWilling_10 : decode cX10_isWilling 10 = .ok (.iload_n 1, 1) := by decide +kernel
theorem dX10_isWilling_11 : decode cX10_isWilling 11 = .ok (.iastore, 1) := by decide +kernel
theorem dX10_isWilling_12 : decode cX10_isWilling 12 = .ok (.aload_n 0, 1) := by decide +kernel
theorem dX10_isWilling_13 : decode cX10_isWilling 13 = .ok (.getfield 72, 3) := by decide +kernel
theorem dX10_isWilling_16 : decode cX10_isWilling 16 = .ok (.bipush 120, 2) := by decide +kernel
theorem dX10_isWilling_18 : decode cX10_isWilling 18 = .ok (.iload_n 2, 1) := by decide +kernel
theorem dX10_isWilling_19 : decode cX10_isWilling 19 = .ok (.iastore, 1) := by decide +kernel
theorem dX10_isWilling_20 : decode cX10_isWilling 20 = .ok (.aload_n 0, 1) := by decide +kernel
theorem dX10_isWilling_21 : decode cX10_isWilling 21 = .ok (.getfield 72, 3) := by decide +kernel
theorem dX10_isWilling_24 : decode cX10_isWilling 24 = .ok (.bipush 118, 2) := by decide +kernel
theorem dX10_isWilling_26 : decode cX10_isWilling 26 = .ok (.iload_n 3, 1) := by decide +kernel
theorem dX10_isWilling_27 : decode cX10_isWilling 27 = .ok (.iastore, 1) := by decide +kernel
theorem dX10_isWilling_28 : decode cX10_isWilling 28 = .ok (.aload_n 0, 1) := by decide +kernel
theorem dX10_isWilling_29 : decode cX10_isWilling 29 = .ok (.getfield 72, 3) := by decide +kernel
theorem dX10_isWilling_32 : decode cX10_isWilling 32 = .ok (.bipush 121, 2) := by decide +kernel
theorem dX10_isWilling_34 : decode cX10_isWilling 34 = .ok (.aload_n 0, 1) := by decide +kernel
theorem dX10_isWilling_35 : decode cX10_isWilling 35 = .ok (.getfield 27, 3) := by decide +kernel
theorem dX10_isWilling_38 : decode cX10_isWilling 38 = .ok (.iload_n 1, 1) := by decide +kernel
theorem dX10_isWilling_39 : decode cX10_isWilling 39 = .ok (.iload_n 2, 1) := by decide +kernel
theorem dX10_isWilling_40 : decode cX10_isWilling 40 = .ok (.iload_n 3, 1) := by decide +kernel
theorem dX10_isWilling_41 : decode cX10_isWilling 41 = .ok (.invokestatic 291, 3) := by decide +kernel
theorem dX10_isWilling_44 : decode cX10_isWilling 44 = .ok (.iaload, 1) := by decide +kernel
theorem dX10_isWilling_45 : decode cX10_isWilling 45 = .ok (.iastore, 1) := by decide +kernel
theorem dX10_isWilling_46 : decode cX10_isWilling 46 = .ok (.aload_n 0, 1) := by decide +kernel
theorem dX10_isWilling_47 : decode cX10_isWilling 47 = .ok (.getfield 72, 3) := by decide +kernel
theorem dX10_isWilling_50 : decode cX10_isWilling 50 = .ok (.bipush 122, 2) := by decide +kernel
theorem dX10_isWilling_52 : decode cX10_isWilling 52 = .ok (.aload_n 0, 1) := by decide +kernel
theorem dX10_isWilling_53 : decode cX10_isWilling 53 = .ok (.getfield 20, 3) := by decide +kernel
theorem dX10_isWilling_56 : decode cX10_isWilling 56 = .ok (.iload_n 1, 1) := by decide +kernel
theorem dX10_isWilling_57 : decode cX10_isWilling 57 = .ok (.iaload, 1) := by decide +kernel
theorem dX10_isWilling_58 : decode cX10_isWilling 58 = .ok (.iastore, 1) := by decide +kernel
theorem dX10_isWilling_59 : decode cX10_isWilling 59 = .ok (.aload_n 0, 1) := by decide +kernel
theorem dX10_isWilling_60 : decode cX10_isWilling 60 = .ok (.getfield 72, 3) := by decide +kernel
theorem dX10_isWilling_63 : decode cX10_isWilling 63 = .ok (.bipush 107, 2) := by decide +kernel
theorem dX10_isWilling_65 : decode cX10_isWilling 65 = .ok (.aload_n 0, 1) := by decide +kernel
theorem dX10_isWilling_66 : decode cX10_isWilling 66 = .ok (.iload_n 2, 1) := by decide +kernel
theorem dX10_isWilling_67 : decode cX10_isWilling 67 = .ok (.invokevirtual 301, 3) := by decide +kernel
theorem dX10_isWilling_70 : decode cX10_isWilling 70 = .ok (.iastore, 1) := by decide +kernel
theorem dX10_isWilling_71 : decode cX10_isWilling 71 = .ok (.aload_n 0, 1) := by decide +kernel
theorem dX10_isWilling_72 : decode cX10_isWilling 72 = .ok (.getfield 72, 3) := by decide +kernel
theorem dX10_isWilling_75 : decode cX10_isWilling 75 = .ok (.bipush 119, 2) := by decide +kernel
theorem dX10_isWilling_77 : decode cX10_isWilling 77 = .ok (.aload_n 0, 1) := by decide +kernel
theorem dX10_isWilling_78 : decode cX10_isWilling 78 = .ok (.getfield 24, 3) := by decide +kernel
theorem dX10_isWilling_81 : decode cX10_isWilling 81 = .ok (.iload_n 1, 1) := by decide +kernel
theorem dX10_isWilling_82 : decode cX10_isWilling 82 = .ok (.iaload, 1) := by decide +kernel
theorem dX10_isWilling_83 : decode cX10_isWilling 83 = .ok (.invokestatic 304, 3) := by decide +kernel
theorem dX10_isWilling_86 : decode cX10_isWilling 86 = .ok (.iastore, 1) := by decide +kernel
theorem dX10_isWilling_87 : decode cX10_isWilling 87 = .ok (.aload_n 0, 1) := by decide +kernel
theorem dX10_isWilling_88 : decode cX10_isWilling 88 = .ok (.bipush 114, 2) := by decide +kernel
theorem dX10_isWilling_90 : decode cX10_isWilling 90 = .ok (.bipush 99, 2) := by decide +kernel
theorem dX10_isWilling_92 : decode cX10_isWilling 92 = .ok (.invokevirtual 307, 3) := by decide +kernel
theorem dX10_isWilling_95 : decode cX10_isWilling 95 = .ok (.ifCond .le 7, 3) := by decide +kernel
theorem dX10_isWilling_98 : decode cX10_isWilling 98 = .ok (.iconst 1, 1) := by decide +kernel
theorem dX10_isWilling_99 : decode cX10_isWilling 99 = .ok (.goto 4, 3) := by decide +kernel
theorem dX10_isWilling_102 : decode cX10_isWilling 102 = .ok (.iconst 0, 1) := by decide +kernel
theorem dX10_isWilling_103 : decode cX10_isWilling 103 = .ok (.ireturn, 1) := by decide +kernel
theorem dX10_saysSo_0 : decode cX10_saysSo 0 = .ok (.aload_n 0, 1) := by decide +kernel
theorem dX10_saysSo_1 : decode cX10_saysSo 1 = .ok (.getfield 24, 3) := by decide +kernel
theorem dX10_saysSo_4 : decode cX10_saysSo 4 = .ok (.iload_n 1, 1) := by decide +kernel
theorem dX10_saysSo_5 : decode cX10_saysSo 5 = .ok (.iaload, 1) := by decide +kernel
theorem dX10_saysSo_6 : decode cX10_saysSo 6 = .ok (.iload_n 2, 1) := by decide +kernel
theorem dX10_saysSo_7 : decode cX10_saysSo 7 = .ok (.invokestatic 297, 3) := by decide +kernel
theorem dX10_saysSo_10 : decode cX10_saysSo 10 = .ok (.ifCond .eq 31, 3) := by decide +kernel
theorem dX10_saysSo_13 : decode cX10_saysSo 13 = .ok (.aload_n 0, 1) := by decide +kernel
theorem dX10_saysSo_14 : decode cX10_saysSo 14 = .ok (.getfield 27, 3) := by decide +kernel
theorem dX10_saysSo_17 : decode cX10_saysSo 17 = .ok (.iload_n 1, 1) := by decide +kernel
theorem dX10_saysSo_18 : decode cX10_saysSo 18 = .ok (.iload_n 2, 1) := by decide +kernel
theorem dX10_saysSo_19 : decode cX10_saysSo 19 = .ok (.iload_n 3, 1) := by decide +kernel
theorem dX10_saysSo_20 : decode cX10_saysSo 20 = .ok (.invokestatic 291, 3) := by decide +kernel
theorem dX10_saysSo_23 : decode cX10_saysSo 23 = .ok (.iaload, 1) := by decide +kernel
theorem dX10_saysSo_24 : decode cX10_saysSo 24 = .ok (.ifCond .le 17, 3) := by decide +kernel
theorem dX10_saysSo_27 : decode cX10_saysSo 27 = .ok (.aload_n 0, 1) := by decide +kernel
theorem dX10_saysSo_28 : decode cX10_saysSo 28 = .ok (.iload_n 1, 1) := by decide +kernel
theorem dX10_saysSo_29 : decode cX10_saysSo 29 = .ok (.iload_n 2, 1) := by decide +kernel
theorem dX10_saysSo_30 : decode cX10_saysSo 30 = .ok (.iload_n 3, 1) := by decide +kernel
theorem dX10_saysSo_31 : decode cX10_saysSo 31 = .ok (.invokevirtual 311, 3) := by decide +kernel
theorem dX10_saysSo_34 : decode cX10_saysSo 34 = .ok (.ifCond .eq 7, 3) := by decide +kernel
theorem dX10_saysSo_37 : decode cX10_saysSo 37 = .ok (.iconst 1, 1) := by decide +kernel
theorem dX10_saysSo_38 : decode cX10_saysSo 38 = .ok (.goto 4, 3) := by decide +kernel
theorem dX10_saysSo_41 : decode cX10_saysSo 41 = .ok (.iconst 0, 1) := by decide +kernel
theorem dX10_saysSo_42 : decode cX10_saysSo 42 = .ok (.ireturn, 1) := by decide +kernel
theorem dX10_would_0 : decode cX10_would 0 = .ok (.aload_n 0, 1) := by decide +kernel
theorem dX10_would_1 : decode cX10_would 1 = .ok (.iload_n 1, 1) := by decide +kernel
theorem dX10_would_2 : decode cX10_would 2 = .ok (.invokevirtual 284, 3) := by decide +kernel
theorem dX10_would_5 : decode cX10_would 5 = .ok (.ifCond .eq 39, 3) := by decide +kernel
theorem dX10_would_8 : decode cX10_would 8 = .ok (.aload_n 0, 1) := by decide +kernel
theorem dX10_would_9 : decode cX10_would 9 = .ok (.iload_n 2, 1) := by decide +kernel
theorem dX10_would_10 : decode cX10_would 10 = .ok (.invokevirtual 315, 3) := by decide +kernel
theorem dX10_would_13 : decode cX10_would 13 = .ok (.ifCond .eq 31, 3) := by decide +kernel
theorem dX10_would_16 : decode cX10_would 16 = .ok (.iload_n 3, 1) := by decide +kernel
theorem dX10_would_17 : decode cX10_would 17 = .ok (.i2l, 1) := by decide +kernel
theorem dX10_would_18 : decode cX10_would 18 = .ok (.lconst 0, 1) := by decide +kernel
theorem dX10_would_19 : decode cX10_would 19 = .ok (.lconst 1, 1) := by decide +kernel
theorem dX10_would_20 : decode cX10_would 20 = .ok (.invokestatic 120, 3) := by decide +kernel
theorem dX10_would_23 : decode cX10_would 23 = .ok (.ifCond .eq 21, 3) := by decide +kernel
theorem dX10_would_26 : decode cX10_would 26 = .ok (.aload_n 0, 1) := by decide +kernel
theorem dX10_would_27 : decode cX10_would 27 = .ok (.iload_n 1, 1) := by decide +kernel
theorem dX10_would_28 : decode cX10_would 28 = .ok (.iload_n 2, 1) := by decide +kernel
theorem dX10_would_29 : decode cX10_would 29 = .ok (.iload_n 3, 1) := by decide +kernel
theorem dX10_would_30 : decode cX10_would 30 = .ok (.invokevirtual 318, 3) := by decide +kernel
theorem dX10_would_33 : decode cX10_would 33 = .ok (.ifCond .eq 7, 3) := by decide +kernel
theorem dX10_would_36 : decode cX10_would 36 = .ok (.iconst 1, 1) := by decide +kernel
theorem dX10_would_37 : decode cX10_would 37 = .ok (.goto 8, 3) := by decide +kernel
theorem dX10_would_40 : decode cX10_would 40 = .ok (.iconst 0, 1) := by decide +kernel
theorem dX10_would_41 : decode cX10_would 41 = .ok (.goto 4, 3) := by decide +kernel
theorem dX10_would_44 : decode cX10_would 44 = .ok (.iconst (-1), 1) := by decide +kernel
theorem dX10_would_45 : decode cX10_would 45 = .ok (.ireturn, 1) := by decide +kernel
theorem dX10_writes_0 : decode cX10_writes 0 = .ok (.aload_n 0, 1) := by decide +kernel
theorem dX10_writes_1 : decode cX10_writes 1 = .ok (.getfield 89, 3) := by decide +kernel
theorem dX10_writes_4 : decode cX10_writes 4 = .ok (.aload_n 0, 1) := by decide +kernel
theorem dX10_writes_5 : decode cX10_writes 5 = .ok (.getfield 262, 3) := by decide +kernel
theorem dX10_writes_8 : decode cX10_writes 8 = .ok (.iload_n 1, 1) := by decide +kernel
theorem dX10_writes_9 : decode cX10_writes 9 = .ok (.iastore, 1) := by decide +kernel
theorem dX10_writes_10 : decode cX10_writes 10 = .ok (.aload_n 0, 1) := by decide +kernel
theorem dX10_writes_11 : decode cX10_writes 11 = .ok (.getfield 92, 3) := by decide +kernel
theorem dX10_writes_14 : decode cX10_writes 14 = .ok (.aload_n 0, 1) := by decide +kernel
theorem dX10_writes_15 : decode cX10_writes 15 = .ok (.getfield 262, 3) := by decide +kernel
theorem dX10_writes_18 : decode cX10_writes 18 = .ok (.iload_n 2, 1) := by decide +kernel
theorem dX10_writes_19 : decode cX10_writes 19 = .ok (.iastore, 1) := by decide +kernel
theorem dX10_writes_20 : decode cX10_writes 20 = .ok (.aload_n 0, 1) := by decide +kernel
theorem dX10_writes_21 : decode cX10_writes 21 = .ok (.getfield 95, 3) := by decide +kernel
theorem dX10_writes_24 : decode cX10_writes 24 = .ok (.aload_n 0, 1) := by decide +kernel
theorem dX10_writes_25 : decode cX10_writes 25 = .ok (.getfield 262, 3) := by decide +kernel
theorem dX10_writes_28 : decode cX10_writes 28 = .ok (.iload_n 3, 1) := by decide +kernel
theorem dX10_writes_29 : decode cX10_writes 29 = .ok (.iastore, 1) := by decide +kernel
theorem dX10_writes_30 : decode cX10_writes 30 = .ok (.aload_n 0, 1) := by decide +kernel
theorem dX10_writes_31 : decode cX10_writes 31 = .ok (.getfield 98, 3) := by decide +kernel
theorem dX10_writes_34 : decode cX10_writes 34 = .ok (.aload_n 0, 1) := by decide +kernel
theorem dX10_writes_35 : decode cX10_writes 35 = .ok (.getfield 262, 3) := by decide +kernel
theorem dX10_writes_38 : decode cX10_writes 38 = .ok (.iload 4, 2) := by decide +kernel
theorem dX10_writes_40 : decode cX10_writes 40 = .ok (.iastore, 1) := by decide +kernel
theorem dX10_writes_41 : decode cX10_writes 41 = .ok (.aload_n 0, 1) := by decide +kernel
theorem dX10_writes_42 : decode cX10_writes 42 = .ok (.getfield 30, 3) := by decide +kernel
theorem dX10_writes_45 : decode cX10_writes 45 = .ok (.iload_n 1, 1) := by decide +kernel
theorem dX10_writes_46 : decode cX10_writes 46 = .ok (.dup2, 1) := by decide +kernel
theorem dX10_writes_47 : decode cX10_writes 47 = .ok (.iaload, 1) := by decide +kernel
theorem dX10_writes_48 : decode cX10_writes 48 = .ok (.iload 4, 2) := by decide +kernel
theorem dX10_writes_50 : decode cX10_writes 50 = .ok (.iadd, 1) := by decide +kernel
theorem dX10_writes_51 : decode cX10_writes 51 = .ok (.iastore, 1) := by decide +kernel
theorem dX10_writes_52 : decode cX10_writes 52 = .ok (.aload_n 0, 1) := by decide +kernel
theorem dX10_writes_53 : decode cX10_writes 53 = .ok (.dup, 1) := by decide +kernel
theorem dX10_writes_54 : decode cX10_writes 54 = .ok (.getfield 262, 3) := by decide +kernel
theorem dX10_writes_57 : decode cX10_writes 57 = .ok (.iconst 1, 1) := by decide +kernel
theorem dX10_writes_58 : decode cX10_writes 58 = .ok (.iadd, 1) := by decide +kernel
theorem dX10_writes_59 : decode cX10_writes 59 = .ok (.putfield 262, 3) := by decide +kernel
theorem dX10_writes_62 : decode cX10_writes 62 = .ok (.return_, 1) := by decide +kernel
theorem dX10_ask_0 : decode cX10_ask 0 = .ok (.aload_n 0, 1) := by decide +kernel
theorem dX10_ask_1 : decode cX10_ask 1 = .ok (.iload_n 1, 1) := by decide +kernel
theorem dX10_ask_2 : decode cX10_ask 2 = .ok (.invokevirtual 284, 3) := by decide +kernel
theorem dX10_ask_5 : decode cX10_ask 5 = .ok (.ifCond .eq 11, 3) := by decide +kernel
theorem dX10_ask_8 : decode cX10_ask 8 = .ok (.aload_n 0, 1) := by decide +kernel
theorem dX10_ask_9 : decode cX10_ask 9 = .ok (.iload_n 2, 1) := by decide +kernel
theorem dX10_ask_10 : decode cX10_ask 10 = .ok (.invokevirtual 315, 3) := by decide +kernel
theorem dX10_ask_13 : decode cX10_ask 13 = .ok (.ifCond .ne 5, 3) := by decide +kernel
theorem dX10_ask_16 : decode cX10_ask 16 = .ok (.iconst (-1), 1) := by decide +kernel
theorem dX10_ask_17 : decode cX10_ask 17 = .ok (.ireturn, 1) := by decide +kernel
theorem dX10_ask_18 : decode cX10_ask 18 = .ok (.aload_n 0, 1) := by decide +kernel
theorem dX10_ask_19 : decode cX10_ask 19 = .ok (.getfield 262, 3) := by decide +kernel
theorem dX10_ask_22 : decode cX10_ask 22 = .ok (.bipush 40, 2) := by decide +kernel
theorem dX10_ask_24 : decode cX10_ask 24 = .ok (.if_icmp .ne 6, 3) := by decide +kernel
theorem dX10_ask_27 : decode cX10_ask 27 = .ok (.bipush (-2), 2) := by decide +kernel
theorem dX10_ask_29 : decode cX10_ask 29 = .ok (.ireturn, 1) := by decide +kernel
theorem dX10_ask_30 : decode cX10_ask 30 = .ok (.aload_n 0, 1) := by decide +kernel
theorem dX10_ask_31 : decode cX10_ask 31 = .ok (.getfield 276, 3) := by decide +kernel
theorem dX10_ask_34 : decode cX10_ask 34 = .ok (.iload_n 2, 1) := by decide +kernel
theorem dX10_ask_35 : decode cX10_ask 35 = .ok (.ishr, 1) := by decide +kernel
theorem dX10_ask_36 : decode cX10_ask 36 = .ok (.iconst 1, 1) := by decide +kernel
theorem dX10_ask_37 : decode cX10_ask 37 = .ok (.iand, 1) := by decide +kernel
theorem dX10_ask_38 : decode cX10_ask 38 = .ok (.istore_n 3, 1) := by decide +kernel
theorem dX10_ask_39 : decode cX10_ask 39 = .ok (.aload_n 0, 1) := by decide +kernel
theorem dX10_ask_40 : decode cX10_ask 40 = .ok (.iload_n 1, 1) := by decide +kernel
theorem dX10_ask_41 : decode cX10_ask 41 = .ok (.iload_n 2, 1) := by decide +kernel
theorem dX10_ask_42 : decode cX10_ask 42 = .ok (.iload_n 3, 1) := by decide +kernel
theorem dX10_ask_43 : decode cX10_ask 43 = .ok (.invokevirtual 318, 3) := by decide +kernel
theorem dX10_ask_46 : decode cX10_ask 46 = .ok (.istore 4, 2) := by decide +kernel
theorem dX10_ask_48 : decode cX10_ask 48 = .ok (.aload_n 0, 1) := by decide +kernel
theorem dX10_ask_49 : decode cX10_ask 49 = .ok (.iload_n 1, 1) := by decide +kernel
theorem dX10_ask_50 : decode cX10_ask 50 = .ok (.iload_n 2, 1) := by decide +kernel
theorem dX10_ask_51 : decode cX10_ask 51 = .ok (.iconst 0, 1) := by decide +kernel
theorem dX10_ask_52 : decode cX10_ask 52 = .ok (.invokevirtual 318, 3) := by decide +kernel
theorem dX10_ask_55 : decode cX10_ask 55 = .ok (.ifCond .ne 7, 3) := by decide +kernel
theorem dX10_ask_58 : decode cX10_ask 58 = .ok (.iconst 1, 1) := by decide +kernel
theorem dX10_ask_59 : decode cX10_ask 59 = .ok (.goto 4, 3) := by decide +kernel
theorem dX10_ask_62 : decode cX10_ask 62 = .ok (.iconst 0, 1) := by decide +kernel
theorem dX10_ask_63 : decode cX10_ask 63 = .ok (.istore 5, 2) := by decide +kernel
theorem dX10_ask_65 : decode cX10_ask 65 = .ok (.aload_n 0, 1) := by decide +kernel
theorem dX10_ask_66 : decode cX10_ask 66 = .ok (.iload_n 1, 1) := by decide +kernel
theorem dX10_ask_67 : decode cX10_ask 67 = .ok (.iload_n 2, 1) := by decide +kernel
theorem dX10_ask_68 : decode cX10_ask 68 = .ok (.iconst 1, 1) := by decide +kernel
theorem dX10_ask_69 : decode cX10_ask 69 = .ok (.invokevirtual 318, 3) := by decide +kernel
theorem dX10_ask_72 : decode cX10_ask 72 = .ok (.ifCond .ne 7, 3) := by decide +kernel
theorem dX10_ask_75 : decode cX10_ask 75 = .ok (.iconst 1, 1) := by decide +kernel
theorem dX10_ask_76 : decode cX10_ask 76 = .ok (.goto 4, 3) := by decide +kernel
theorem dX10_ask_79 : decode cX10_ask 79 = .ok (.iconst 0, 1) := by decide +kernel
theorem dX10_ask_80 : decode cX10_ask 80 = .ok (.istore 6, 2) := by decide +kernel
theorem dX10_ask_82 : decode cX10_ask 82 = .ok (.iconst 0, 1) := by decide +kernel
theorem dX10_ask_83 : decode cX10_ask 83 = .ok (.istore 7, 2) := by decide +kernel
theorem dX10_ask_85 : decode cX10_ask 85 = .ok (.iload 7, 2) := by decide +kernel
theorem dX10_ask_87 : decode cX10_ask 87 = .ok (.sipush 1024, 3) := by decide +kernel
theorem dX10_ask_90 : decode cX10_ask 90 = .ok (.if_icmp .ge 92, 3) := by decide +kernel
theorem dX10_ask_93 : decode cX10_ask 93 = .ok (.iload 7, 2) := by decide +kernel
theorem dX10_ask_95 : decode cX10_ask 95 = .ok (.iload_n 2, 1) := by decide +kernel
theorem dX10_ask_96 : decode cX10_ask 96 = .ok (.invokestatic 297, 3) := by decide +kernel
theorem dX10_ask_99 : decode cX10_ask 99 = .ok (.istore 8, 2) := by decide +kernel
theorem dX10_ask_101 : decode cX10_ask 101 = .ok (.aload_n 0, 1) := by decide +kernel
theorem dX10_ask_102 : decode cX10_ask 102 = .ok (.getfield 83, 3) := by decide +kernel
theorem dX10_ask_105 : decode cX10_ask 105 = .ok (.sipush 1024, 3) := by decide +kernel
theorem dX10_ask_108 : decode cX10_ask 108 = .ok (.aload_n 0, 1) := by decide +kernel
theorem dX10_ask_109 : decode cX10_ask 109 = .ok (.getfield 262, 3) := by decide +kernel
theorem dX10_ask_112 : decode cX10_ask 112 = .ok (.imul, 1) := by decide +kernel
theorem dX10_ask_113 : decode cX10_ask 113 = .ok (.sipush 1024, 3) := by decide +kernel
theorem dX10_ask_116 : decode cX10_ask 116 = .ok (.iadd, 1) := by decide +kernel
theorem dX10_ask_117 : decode cX10_ask 117 = .ok (.iload 7, 2) := by decide +kernel
theorem dX10_ask_119 : decode cX10_ask 119 = .ok (.iadd, 1) := by decide +kernel
theorem dX10_ask_120 : decode cX10_ask 120 = .ok (.aload_n 0, 1) := by decide +kernel
theorem dX10_ask_121 : decode cX10_ask 121 = .ok (.iload 7, 2) := by decide +kernel
theorem dX10_ask_123 : decode cX10_ask 123 = .ok (.invokevirtual 271, 3) := by decide +kernel
theorem dX10_ask_126 : decode cX10_ask 126 = .ok (.ifCond .eq 48, 3) := by decide +kernel
theorem dX10_ask_129 : decode cX10_ask 129 = .ok (.iload 4, 2) := by decide +kernel
theorem dX10_ask_131 : decode cX10_ask 131 = .ok (.ifCond .eq 21, 3) := by decide +kernel
theorem dX10_ask_134 : decode cX10_ask 134 = .ok (.iload 8, 2) := by decide +kernel
theorem dX10_ask_136 : decode cX10_ask 136 = .ok (.iload_n 3, 1) := by decide +kernel
theorem dX10_ask_137 : decode cX10_ask 137 = .ok (.iconst 1, 1) := by decide +kernel
theorem dX10_ask_138 : decode cX10_ask 138 = .ok (.if_icmp .ne 7, 3) := by decide +kernel
theorem dX10_ask_141 : decode cX10_ask 141 = .ok (.iconst 1, 1) := by decide +kernel
theorem dX10_ask_142 : decode cX10_ask 142 = .ok (.goto 4, 3) := by decide +kernel
theorem dX10_ask_145 : decode cX10_ask 145 = .ok (.iconst 0, 1) := by decide +kernel
theorem dX10_ask_146 : decode cX10_ask 146 = .ok (.if_icmp .ne 28, 3) := by decide +kernel
theorem dX10_ask_149 : decode cX10_ask 149 = .ok (.goto 21, 3) := by decide +kernel
theorem dX10_ask_152 : decode cX10_ask 152 = .ok (.iload 8, 2) := by decide +kernel
theorem dX10_ask_154 : decode cX10_ask 154 = .ok (.ifCond .eq 11, 3) := by decide +kernel
theorem dX10_ask_157 : decode cX10_ask 157 = .ok (.iload 6, 2) := by decide +kernel
theorem dX10_ask_159 : decode cX10_ask 159 = .ok (.ifCond .eq 15, 3) := by decide +kernel
theorem dX10_ask_162 : decode cX10_ask 162 = .ok (.goto 8, 3) := by decide +kernel
theorem dX10_ask_165 : decode cX10_ask 165 = .ok (.iload 5, 2) := by decide +kernel
theorem dX10_ask_167 : decode cX10_ask 167 = .ok (.ifCond .eq 7, 3) := by decide +kernel
theorem dX10_ask_170 : decode cX10_ask 170 = .ok (.iconst 1, 1) := by decide +kernel
theorem dX10_ask_171 : decode cX10_ask 171 = .ok (.goto 4, 3) := by decide +kernel
theorem dX10_ask_174 : decode cX10_ask 174 = .ok (.iconst 0, 1) := by decide +kernel
theorem dX10_ask_175 : decode cX10_ask 175 = .ok (.bastore, 1) := by decide +kernel
theorem dX10_ask_176 : decode cX10_ask 176 = .ok (.iinc 7 1, 3) := by decide +kernel
theorem dX10_ask_179 : decode cX10_ask 179 = .ok (.goto (-94), 3) := by decide +kernel
theorem dX10_ask_182 : decode cX10_ask 182 = .ok (.aload_n 0, 1) := by decide +kernel
theorem dX10_ask_183 : decode cX10_ask 183 = .ok (.iload_n 1, 1) := by decide +kernel
theorem dX10_ask_184 : decode cX10_ask 184 = .ok (.iload_n 2, 1) := by decide +kernel
theorem dX10_ask_185 : decode cX10_ask 185 = .ok (.iload 4, 2) := by decide +kernel
theorem dX10_ask_187 : decode cX10_ask 187 = .ok (.ifCond .eq 7, 3) := by decide +kernel
theorem dX10_ask_190 : decode cX10_ask 190 = .ok (.iload_n 3, 1) := by decide +kernel
theorem dX10_ask_191 : decode cX10_ask 191 = .ok (.goto 4, 3) := by decide +kernel
theorem dX10_ask_194 : decode cX10_ask 194 = .ok (.iconst 2, 1) := by decide +kernel
theorem dX10_ask_195 : decode cX10_ask 195 = .ok (.iload 4, 2) := by decide +kernel
theorem dX10_ask_197 : decode cX10_ask 197 = .ok (.ifCond .eq 17, 3) := by decide +kernel
theorem dX10_ask_200 : decode cX10_ask 200 = .ok (.aload_n 0, 1) := by decide +kernel
theorem dX10_ask_201 : decode cX10_ask 201 = .ok (.getfield 27, 3) := by decide +kernel
theorem dX10_ask_204 : decode cX10_ask 204 = .ok (.iload_n 1, 1) := by decide +kernel
theorem dX10_ask_205 : decode cX10_ask 205 = .ok (.iload_n 2, 1) := by decide +kernel
theorem dX10_ask_206 : decode cX10_ask 206 = .ok (.iload_n 3, 1) := by decide +kernel
theorem dX10_ask_207 : decode cX10_ask 207 = .ok (.invokestatic 291, 3) := by decide +kernel
theorem dX10_ask_210 : decode cX10_ask 210 = .ok (.iaload, 1) := by decide +kernel
theorem dX10_ask_211 : decode cX10_ask 211 = .ok (.goto 9, 3) := by decide +kernel
theorem dX10_ask_214 : decode cX10_ask 214 = .ok (.aload_n 0, 1) := by decide +kernel
theorem dX10_ask_215 : decode cX10_ask 215 = .ok (.getfield 20, 3) := by decide +kernel
theorem dX10_ask_218 : decode cX10_ask 218 = .ok (.iload_n 1, 1) := by decide +kernel
theorem dX10_ask_219 : decode cX10_ask 219 = .ok (.iaload, 1) := by decide +kernel
theorem dX10_ask_220 : decode cX10_ask 220 = .ok (.invokevirtual 321, 3) := by decide +kernel
theorem dX10_ask_223 : decode cX10_ask 223 = .ok (.iload 4, 2) := by decide +kernel
theorem dX10_ask_225 : decode cX10_ask 225 = .ok (.ifCond .eq 7, 3) := by decide +kernel
theorem dX10_ask_228 : decode cX10_ask 228 = .ok (.iload_n 3, 1) := by decide +kernel
theorem dX10_ask_229 : decode cX10_ask 229 = .ok (.goto 4, 3) := by decide +kernel
theorem dX10_ask_232 : decode cX10_ask 232 = .ok (.iconst 2, 1) := by decide +kernel
theorem dX10_ask_233 : decode cX10_ask 233 = .ok (.ireturn, 1) := by decide +kernel
theorem dX10_half_0 : decode cX10_half 0 = .ok (.aload_n 0, 1) := by decide +kernel
theorem dX10_half_1 : decode cX10_half 1 = .ok (.iload_n 1, 1) := by decide +kernel
theorem dX10_half_2 : decode cX10_half 2 = .ok (.invokevirtual 284, 3) := by decide +kernel
theorem dX10_half_5 : decode cX10_half 5 = .ok (.ifCond .eq 24, 3) := by decide +kernel
theorem dX10_half_8 : decode cX10_half 8 = .ok (.aload_n 0, 1) := by decide +kernel
theorem dX10_half_9 : decode cX10_half 9 = .ok (.iload_n 2, 1) := by decide +kernel
theorem dX10_half_10 : decode cX10_half 10 = .ok (.invokevirtual 315, 3) := by decide +kernel
theorem dX10_half_13 : decode cX10_half 13 = .ok (.ifCond .eq 16, 3) := by decide +kernel
theorem dX10_half_16 : decode cX10_half 16 = .ok (.aload_n 0, 1) := by decide +kernel
theorem dX10_half_17 : decode cX10_half 17 = .ok (.iload_n 3, 1) := by decide +kernel
theorem dX10_half_18 : decode cX10_half 18 = .ok (.invokevirtual 315, 3) := by decide +kernel
theorem dX10_half_21 : decode cX10_half 21 = .ok (.ifCond .eq 8, 3) := by decide +kernel
theorem dX10_half_24 : decode cX10_half 24 = .ok (.iload_n 2, 1) := by decide +kernel
theorem dX10_half_25 : decode cX10_half 25 = .ok (.iload_n 3, 1) := by decide +kernel
theorem dX10_half_26 : decode cX10_half 26 = .ok (.if_icmp .ne 5, 3) := by decide +kernel
theorem dX10_half_29 : decode cX10_half 29 = .ok (.iconst (-1), 1) := by decide +kernel
theorem dX10_half_30 : decode cX10_half 30 = .ok (.ireturn, 1) := by decide +kernel
theorem dX10_half_31 : decode cX10_half 31 = .ok (.aload_n 0, 1) := by decide +kernel
theorem dX10_half_32 : decode cX10_half 32 = .ok (.getfield 262, 3) := by decide +kernel
theorem dX10_half_35 : decode cX10_half 35 = .ok (.bipush 40, 2) := by decide +kernel
theorem dX10_half_37 : decode cX10_half 37 = .ok (.if_icmp .ne 6, 3) := by decide +kernel
theorem dX10_half_40 : decode cX10_half 40 = .ok (.bipush (-2), 2) := by decide +kernel
theorem dX10_half_42 : decode cX10_half 42 = .ok (.ireturn, 1) := by decide +kernel
theorem dX10_half_43 : decode cX10_half 43 = .ok (.aload_n 0, 1) := by decide +kernel
theorem dX10_half_44 : decode cX10_half 44 = .ok (.iload_n 1, 1) := by decide +kernel
theorem dX10_half_45 : decode cX10_half 45 = .ok (.iload_n 2, 1) := by decide +kernel
theorem dX10_half_46 : decode cX10_half 46 = .ok (.iconst 1, 1) := by decide +kernel
theorem dX10_half_47 : decode cX10_half 47 = .ok (.invokevirtual 318, 3) := by decide +kernel
theorem dX10_half_50 : decode cX10_half 50 = .ok (.ifCond .eq 17, 3) := by decide +kernel
theorem dX10_half_53 : decode cX10_half 53 = .ok (.aload_n 0, 1) := by decide +kernel
theorem dX10_half_54 : decode cX10_half 54 = .ok (.iload_n 1, 1) := by decide +kernel
theorem dX10_half_55 : decode cX10_half 55 = .ok (.iload_n 3, 1) := by decide +kernel
theorem dX10_half_56 : decode cX10_half 56 = .ok (.iconst 1, 1) := by decide +kernel
theorem dX10_half_57 : decode cX10_half 57 = .ok (.invokevirtual 318, 3) := by decide +kernel
theorem dX10_half_60 : decode cX10_half 60 = .ok (.ifCond .eq 7, 3) := by decide +kernel
theorem dX10_half_63 : decode cX10_half 63 = .ok (.iconst 1, 1) := by decide +kernel
theorem dX10_half_64 : decode cX10_half 64 = .ok (.goto 4, 3) := by decide +kernel
theorem dX10_half_67 : decode cX10_half 67 = .ok (.iconst 0, 1) := by decide +kernel
theorem dX10_half_68 : decode cX10_half 68 = .ok (.istore 4, 2) := by decide +kernel
theorem dX10_half_70 : decode cX10_half 70 = .ok (.iload 4, 2) := by decide +kernel
theorem dX10_half_72 : decode cX10_half 72 = .ok (.ifCond .eq 29, 3) := by decide +kernel
theorem dX10_half_75 : decode cX10_half 75 = .ok (.aload_n 0, 1) := by decide +kernel
theorem dX10_half_76 : decode cX10_half 76 = .ok (.getfield 276, 3) := by decide +kernel
theorem dX10_half_79 : decode cX10_half 79 = .ok (.iload_n 2, 1) := by decide +kernel
theorem dX10_half_80 : decode cX10_half 80 = .ok (.invokestatic 297, 3) := by decide +kernel
theorem dX10_half_83 : decode cX10_half 83 = .ok (.ifCond .ne 14, 3) := by decide +kernel
theorem dX10_half_86 : decode cX10_half 86 = .ok (.aload_n 0, 1) := by decide +kernel
theorem dX10_half_87 : decode cX10_half 87 = .ok (.getfield 276, 3) := by decide +kernel
theorem dX10_half_90 : decode cX10_half 90 = .ok (.iload_n 3, 1) := by decide +kernel
theorem dX10_half_91 : decode cX10_half 91 = .ok (.invokestatic 297, 3) := by decide +kernel
theorem dX10_half_94 : decode cX10_half 94 = .ok (.ifCond .eq 7, 3) := by decide +kernel
theorem dX10_half_97 : decode cX10_half 97 = .ok (.iconst 1, 1) := by decide +kernel
theorem dX10_half_98 : decode cX10_half 98 = .ok (.goto 4, 3) := by decide +kernel
theorem dX10_half_101 : decode cX10_half 101 = .ok (.iconst 0, 1) := by decide +kernel
theorem dX10_half_102 : decode cX10_half 102 = .ok (.istore 5, 2) := by decide +kernel
theorem dX10_half_104 : decode cX10_half 104 = .ok (.iconst 0, 1) := by decide +kernel
theorem dX10_half_105 : decode cX10_half 105 = .ok (.istore 6, 2) := by decide +kernel
theorem dX10_half_107 : decode cX10_half 107 = .ok (.iload 6, 2) := by decide +kernel
theorem dX10_half_109 : decode cX10_half 109 = .ok (.sipush 1024, 3) := by decide +kernel
theorem dX10_half_112 : decode cX10_half 112 = .ok (.if_icmp .ge 80, 3) := by decide +kernel
theorem dX10_half_115 : decode cX10_half 115 = .ok (.iload 6, 2) := by decide +kernel
theorem dX10_half_117 : decode cX10_half 117 = .ok (.iload_n 2, 1) := by decide +kernel
theorem dX10_half_118 : decode cX10_half 118 = .ok (.invokestatic 297, 3) := by decide +kernel
theorem dX10_half_121 : decode cX10_half 121 = .ok (.ifCond .ne 12, 3) := by decide +kernel
theorem dX10_half_124 : decode cX10_half 124 = .ok (.iload 6, 2) := by decide +kernel
theorem dX10_half_126 : decode cX10_half 126 = .ok (.iload_n 3, 1) := by decide +kernel
theorem dX10_half_127 : decode cX10_half 127 = .ok (.invokestatic 297, 3) := by decide +kernel
theorem dX10_half_130 : decode cX10_half 130 = .ok (.ifCond .eq 7, 3) := by decide +kernel
theorem dX10_half_133 : decode cX10_half 133 = .ok (.iconst 1, 1) := by decide +kernel
theorem dX10_half_134 : decode cX10_half 134 = .ok (.goto 4, 3) := by decide +kernel
theorem dX10_half_137 : decode cX10_half 137 = .ok (.iconst 0, 1) := by decide +kernel
theorem dX10_half_138 : decode cX10_half 138 = .ok (.istore 7, 2) := by decide +kernel
theorem dX10_half_140 : decode cX10_half 140 = .ok (.aload_n 0, 1) := by decide +kernel
theorem dX10_half_141 : decode cX10_half 141 = .ok (.getfield 83, 3) := by decide +kernel
theorem dX10_half_144 : decode cX10_half 144 = .ok (.sipush 1024, 3) := by decide +kernel
theorem dX10_half_147 : decode cX10_half 147 = .ok (.aload_n 0, 1) := by decide +kernel
theorem dX10_half_148 : decode cX10_half 148 = .ok (.getfield 262, 3) := by decide +kernel
theorem dX10_half_151 : decode cX10_half 151 = .ok (.imul, 1) := by decide +kernel
theorem dX10_half_152 : decode cX10_half 152 = .ok (.sipush 1024, 3) := by decide +kernel
theorem dX10_half_155 : decode cX10_half 155 = .ok (.iadd, 1) := by decide +kernel
theorem dX10_half_156 : decode cX10_half 156 = .ok (.iload 6, 2) := by decide +kernel
theorem dX10_half_158 : decode cX10_half 158 = .ok (.iadd, 1) := by decide +kernel
theorem dX10_half_159 : decode cX10_half 159 = .ok (.aload_n 0, 1) := by decide +kernel
theorem dX10_half_160 : decode cX10_half 160 = .ok (.iload 6, 2) := by decide +kernel
theorem dX10_half_162 : decode cX10_half 162 = .ok (.invokevirtual 271, 3) := by decide +kernel
theorem dX10_half_165 : decode cX10_half 165 = .ok (.ifCond .eq 19, 3) := by decide +kernel
theorem dX10_half_168 : decode cX10_half 168 = .ok (.iload 4, 2) := by decide +kernel
theorem dX10_half_170 : decode cX10_half 170 = .ok (.ifCond .eq 10, 3) := by decide +kernel
theorem dX10_half_173 : decode cX10_half 173 = .ok (.iload 7, 2) := by decide +kernel
theorem dX10_half_175 : decode cX10_half 175 = .ok (.iload 5, 2) := by decide +kernel
theorem dX10_half_177 : decode cX10_half 177 = .ok (.if_icmp .ne 7, 3) := by decide +kernel
theorem dX10_half_180 : decode cX10_half 180 = .ok (.iconst 1, 1) := by decide +kernel
theorem dX10_half_181 : decode cX10_half 181 = .ok (.goto 4, 3) := by decide +kernel
theorem dX10_half_184 : decode cX10_half 184 = .ok (.iconst 0, 1) := by decide +kernel
theorem dX10_half_185 : decode cX10_half 185 = .ok (.bastore, 1) := by decide +kernel
theorem dX10_half_186 : decode cX10_half 186 = .ok (.iinc 6 1, 3) := by decide +kernel
theorem dX10_half_189 : decode cX10_half 189 = .ok (.goto (-82), 3) := by decide +kernel
theorem dX10_half_192 : decode cX10_half 192 = .ok (.aload_n 0, 1) := by decide +kernel
theorem dX10_half_193 : decode cX10_half 193 = .ok (.getfield 27, 3) := by decide +kernel
theorem dX10_half_196 : decode cX10_half 196 = .ok (.iload_n 1, 1) := by decide +kernel
theorem dX10_half_197 : decode cX10_half 197 = .ok (.iload_n 2, 1) := by decide +kernel
theorem dX10_half_198 : decode cX10_half 198 = .ok (.iconst 1, 1) := by decide +kernel
theorem dX10_half_199 : decode cX10_half 199 = .ok (.invokestatic 291, 3) := by decide +kernel
theorem dX10_half_202 : decode cX10_half 202 = .ok (.iaload, 1) := by decide +kernel
theorem dX10_half_203 : decode cX10_half 203 = .ok (.istore 6, 2) := by decide +kernel
theorem dX10_half_205 : decode cX10_half 205 = .ok (.aload_n 0, 1) := by decide +kernel
theorem dX10_half_206 : decode cX10_half 206 = .ok (.getfield 27, 3) := by decide +kernel
theorem dX10_half_209 : decode cX10_half 209 = .ok (.iload_n 1, 1) := by decide +kernel
theorem dX10_half_210 : decode cX10_half 210 = .ok (.iload_n 3, 1) := by decide +kernel
theorem dX10_half_211 : decode cX10_half 211 = .ok (.iconst 1, 1) := by decide +kernel
theorem dX10_half_212 : decode cX10_half 212 = .ok (.invokestatic 291, 3) := by decide +kernel
theorem dX10_half_215 : decode cX10_half 215 = .ok (.iaload, 1) := by decide +kernel
theorem dX10_half_216 : decode cX10_half 216 = .ok (.istore 7, 2) := by decide +kernel
theorem dX10_half_218 : decode cX10_half 218 = .ok (.aload_n 0, 1) := by decide +kernel
theorem dX10_half_219 : decode cX10_half 219 = .ok (.iload_n 1, 1) := by decide +kernel
theorem dX10_half_220 : decode cX10_half 220 = .ok (.iload_n 2, 1) := by decide +kernel
theorem dX10_half_221 : decode cX10_half 221 = .ok (.iload 5, 2) := by decide +kernel
theorem dX10_half_223 : decode cX10_half 223 = .ok (.ifCond .eq 7, 3) := by decide +kernel
theorem dX10_half_226 : decode cX10_half 226 = .ok (.iconst 3, 1) := by decide +kernel
theorem dX10_half_227 : decode cX10_half 227 = .ok (.goto 4, 3) := by decide +kernel
theorem dX10_half_230 : decode cX10_half 230 = .ok (.iconst 4, 1) := by decide +kernel
theorem dX10_half_231 : decode cX10_half 231 = .ok (.iload 5, 2) := by decide +kernel
theorem dX10_half_233 : decode cX10_half 233 = .ok (.ifCond .ne 12, 3) := by decide +kernel
theorem dX10_half_236 : decode cX10_half 236 = .ok (.aload_n 0, 1) := by decide +kernel
theorem dX10_half_237 : decode cX10_half 237 = .ok (.getfield 20, 3) := by decide +kernel
theorem dX10_half_240 : decode cX10_half 240 = .ok (.iload_n 1, 1) := by decide +kernel
theorem dX10_half_241 : decode cX10_half 241 = .ok (.iaload, 1) := by decide +kernel
theorem dX10_half_242 : decode cX10_half 242 = .ok (.goto 17, 3) := by decide +kernel
theorem dX10_half_245 : decode cX10_half 245 = .ok (.iload 6, 2) := by decide +kernel
theorem dX10_half_247 : decode cX10_half 247 = .ok (.iload 7, 2) := by decide +kernel
theorem dX10_half_249 : decode cX10_half 249 = .ok (.if_icmp .ge 8, 3) := by decide +kernel
theorem dX10_half_252 : decode cX10_half 252 = .ok (.iload 6, 2) := by decide +kernel
theorem dX10_half_254 : decode cX10_half 254 = .ok (.goto 5, 3) := by decide +kernel
theorem dX10_half_257 : decode cX10_half 257 = .ok (.iload 7, 2) := by decide +kernel
theorem dX10_half_259 : decode cX10_half 259 = .ok (.invokevirtual 321, 3) := by decide +kernel
theorem dX10_half_262 : decode cX10_half 262 = .ok (.iload 5, 2) := by decide +kernel
theorem dX10_half_264 : decode cX10_half 264 = .ok (.ifCond .eq 7, 3) := by decide +kernel
theorem dX10_half_267 : decode cX10_half 267 = .ok (.iconst 1, 1) := by decide +kernel
theorem dX10_half_268 : decode cX10_half 268 = .ok (.goto 4, 3) := by decide +kernel
theorem dX10_half_271 : decode cX10_half 271 = .ok (.iconst 2, 1) := by decide +kernel
theorem dX10_half_272 : decode cX10_half 272 = .ok (.ireturn, 1) := by decide +kernel
theorem dX10_back_0 : decode cX10_back 0 = .ok (.aload_n 0, 1) := by decide +kernel
theorem dX10_back_1 : decode cX10_back 1 = .ok (.getfield 262, 3) := by decide +kernel
theorem dX10_back_4 : decode cX10_back 4 = .ok (.ifCond .ne 5, 3) := by decide +kernel
theorem dX10_back_7 : decode cX10_back 7 = .ok (.iconst 0, 1) := by decide +kernel
theorem dX10_back_8 : decode cX10_back 8 = .ok (.ireturn, 1) := by decide +kernel
theorem dX10_back_9 : decode cX10_back 9 = .ok (.aload_n 0, 1) := by decide +kernel
theorem dX10_back_10 : decode cX10_back 10 = .ok (.dup, 1) := by decide +kernel
theorem dX10_back_11 : decode cX10_back 11 = .ok (.getfield 262, 3) := by decide +kernel
theorem dX10_back_14 : decode cX10_back 14 = .ok (.iconst 1, 1) := by decide +kernel
theorem dX10_back_15 : decode cX10_back 15 = .ok (.isub, 1) := by decide +kernel
theorem dX10_back_16 : decode cX10_back 16 = .ok (.putfield 262, 3) := by decide +kernel
theorem dX10_back_19 : decode cX10_back 19 = .ok (.aload_n 0, 1) := by decide +kernel
theorem dX10_back_20 : decode cX10_back 20 = .ok (.getfield 30, 3) := by decide +kernel
theorem dX10_back_23 : decode cX10_back 23 = .ok (.aload_n 0, 1) := by decide +kernel
theorem dX10_back_24 : decode cX10_back 24 = .ok (.getfield 89, 3) := by decide +kernel
theorem dX10_back_27 : decode cX10_back 27 = .ok (.aload_n 0, 1) := by decide +kernel
theorem dX10_back_28 : decode cX10_back 28 = .ok (.getfield 262, 3) := by decide +kernel
theorem dX10_back_31 : decode cX10_back 31 = .ok (.iaload, 1) := by decide +kernel
theorem dX10_back_32 : decode cX10_back 32 = .ok (.dup2, 1) := by decide +kernel
theorem dX10_back_33 : decode cX10_back 33 = .ok (.iaload, 1) := by decide +kernel
theorem dX10_back_34 : decode cX10_back 34 = .ok (.aload_n 0, 1) := by decide +kernel
theorem dX10_back_35 : decode cX10_back 35 = .ok (.getfield 98, 3) := by decide +kernel
theorem dX10_back_38 : decode cX10_back 38 = .ok (.aload_n 0, 1) := by decide +kernel
theorem dX10_back_39 : decode cX10_back 39 = .ok (.getfield 262, 3) := by decide +kernel
theorem dX10_back_42 : decode cX10_back 42 = .ok (.iaload, 1) := by decide +kernel
theorem dX10_back_43 : decode cX10_back 43 = .ok (.isub, 1) := by decide +kernel
theorem dX10_back_44 : decode cX10_back 44 = .ok (.iastore, 1) := by decide +kernel
theorem dX10_back_45 : decode cX10_back 45 = .ok (.iconst 1, 1) := by decide +kernel
theorem dX10_back_46 : decode cX10_back 46 = .ok (.ireturn, 1) := by decide +kernel
theorem dX10_anew_0 : decode cX10_anew 0 = .ok (.aload_n 0, 1) := by decide +kernel
theorem dX10_anew_1 : decode cX10_anew 1 = .ok (.getfield 262, 3) := by decide +kernel
theorem dX10_anew_4 : decode cX10_anew 4 = .ok (.istore_n 1, 1) := by decide +kernel
theorem dX10_anew_5 : decode cX10_anew 5 = .ok (.aload_n 0, 1) := by decide +kernel
theorem dX10_anew_6 : decode cX10_anew 6 = .ok (.getfield 262, 3) := by decide +kernel
theorem dX10_anew_9 : decode cX10_anew 9 = .ok (.ifCond .le 42, 3) := by decide +kernel
theorem dX10_anew_12 : decode cX10_anew 12 = .ok (.aload_n 0, 1) := by decide +kernel
theorem dX10_anew_13 : decode cX10_anew 13 = .ok (.dup, 1) := by decide +kernel
theorem dX10_anew_14 : decode cX10_anew 14 = .ok (.getfield 262, 3) := by decide +kernel
theorem dX10_anew_17 : decode cX10_anew 17 = .ok (.iconst 1, 1) := by decide +kernel
theorem dX10_anew_18 : decode cX10_anew 18 = .ok (.isub, 1) := by decide +kernel
theorem dX10_anew_19 : decode cX10_anew 19 = .ok (.putfield 262, 3) := by decide +kernel
theorem dX10_anew_22 : decode cX10_anew 22 = .ok (.aload_n 0, 1) := by decide +kernel
theorem dX10_anew_23 : decode cX10_anew 23 = .ok (.getfield 30, 3) := by decide +kernel
theorem dX10_anew_26 : decode cX10_anew 26 = .ok (.aload_n 0, 1) := by decide +kernel
theorem dX10_anew_27 : decode cX10_anew 27 = .ok (.getfield 89, 3) := by decide +kernel
theorem dX10_anew_30 : decode cX10_anew 30 = .ok (.aload_n 0, 1) := by decide +kernel
theorem dX10_anew_31 : decode cX10_anew 31 = .ok (.getfield 262, 3) := by decide +kernel
theorem dX10_anew_34 : decode cX10_anew 34 = .ok (.iaload, 1) := by decide +kernel
theorem dX10_anew_35 : decode cX10_anew 35 = .ok (.dup2, 1) := by decide +kernel
theorem dX10_anew_36 : decode cX10_anew 36 = .ok (.iaload, 1) := by decide +kernel
theorem dX10_anew_37 : decode cX10_anew 37 = .ok (.aload_n 0, 1) := by decide +kernel
theorem dX10_anew_38 : decode cX10_anew 38 = .ok (.getfield 98, 3) := by decide +kernel
theorem dX10_anew_41 : decode cX10_anew 41 = .ok (.aload_n 0, 1) := by decide +kernel
theorem dX10_anew_42 : decode cX10_anew 42 = .ok (.getfield 262, 3) := by decide +kernel
theorem dX10_anew_45 : decode cX10_anew 45 = .ok (.iaload, 1) := by decide +kernel
theorem dX10_anew_46 : decode cX10_anew 46 = .ok (.isub, 1) := by decide +kernel
theorem dX10_anew_47 : decode cX10_anew 47 = .ok (.iastore, 1) := by decide +kernel
theorem dX10_anew_48 : decode cX10_anew 48 = .ok (.goto (-43), 3) := by decide +kernel
theorem dX10_anew_51 : decode cX10_anew 51 = .ok (.iload_n 1, 1) := by decide +kernel
theorem dX10_anew_52 : decode cX10_anew 52 = .ok (.ireturn, 1) := by decide +kernel
theorem dX10_left_0 : decode cX10_left 0 = .ok (.iload_n 1, 1) := by decide +kernel
theorem dX10_left_1 : decode cX10_left 1 = .ok (.iconst (-1), 1) := by decide +kernel
theorem dX10_left_2 : decode cX10_left 2 = .ok (.if_icmp .ne 8, 3) := by decide +kernel
theorem dX10_left_5 : decode cX10_left 5 = .ok (.aload_n 0, 1) := by decide +kernel
theorem dX10_left_6 : decode cX10_left 6 = .ok (.invokevirtual 279, 3) := by decide +kernel
theorem dX10_left_9 : decode cX10_left 9 = .ok (.ireturn, 1) := by decide +kernel
theorem dX10_left_10 : decode cX10_left 10 = .ok (.iconst 0, 1) := by decide +kernel
theorem dX10_left_11 : decode cX10_left 11 = .ok (.istore_n 2, 1) := by decide +kernel
theorem dX10_left_12 : decode cX10_left 12 = .ok (.iconst 0, 1) := by decide +kernel
theorem dX10_left_13 : decode cX10_left 13 = .ok (.istore_n 3, 1) := by decide +kernel
theorem dX10_left_14 : decode cX10_left 14 = .ok (.iload_n 3, 1) := by decide +kernel
theorem dX10_left_15 : decode cX10_left 15 = .ok (.aload_n 0, 1) := by decide +kernel
theorem dX10_left_16 : decode cX10_left 16 = .ok (.invokevirtual 265, 3) := by decide +kernel
theorem dX10_left_19 : decode cX10_left 19 = .ok (.if_icmp .ge 30, 3) := by decide +kernel
theorem dX10_left_22 : decode cX10_left 22 = .ok (.aload_n 0, 1) := by decide +kernel
theorem dX10_left_23 : decode cX10_left 23 = .ok (.iload_n 3, 1) := by decide +kernel
theorem dX10_left_24 : decode cX10_left 24 = .ok (.invokevirtual 271, 3) := by decide +kernel
theorem dX10_left_27 : decode cX10_left 27 = .ok (.ifCond .ne 6, 3) := by decide +kernel
theorem dX10_left_30 : decode cX10_left 30 = .ok (.goto 13, 3) := by decide +kernel
theorem dX10_left_33 : decode cX10_left 33 = .ok (.iload_n 2, 1) := by decide +kernel
theorem dX10_left_34 : decode cX10_left 34 = .ok (.iload_n 1, 1) := by decide +kernel
theorem dX10_left_35 : decode cX10_left 35 = .ok (.if_icmp .ne 5, 3) := by decide +kernel
theorem dX10_left_38 : decode cX10_left 38 = .ok (.iload_n 3, 1) := by decide +kernel
theorem dX10_left_39 : decode cX10_left 39 = .ok (.ireturn, 1) := by decide +kernel
theorem dX10_left_40 : decode cX10_left 40 = .ok (.iinc 2 1, 3) := by decide +kernel
theorem dX10_left_43 : decode cX10_left 43 = .ok (.iinc 3 1, 3) := by decide +kernel
theorem dX10_left_46 : decode cX10_left 46 = .ok (.goto (-32), 3) := by decide +kernel
theorem dX10_left_49 : decode cX10_left 49 = .ok (.iconst (-1), 1) := by decide +kernel
theorem dX10_left_50 : decode cX10_left 50 = .ok (.ireturn, 1) := by decide +kernel
theorem dX10_isLeft_0 : decode cX10_isLeft 0 = .ok (.iload_n 1, 1) := by decide +kernel
theorem dX10_isLeft_1 : decode cX10_isLeft 1 = .ok (.i2l, 1) := by decide +kernel
theorem dX10_isLeft_2 : decode cX10_isLeft 2 = .ok (.lconst 0, 1) := by decide +kernel
theorem dX10_isLeft_3 : decode cX10_isLeft 3 = .ok (.aload_n 0, 1) := by decide +kernel
theorem dX10_isLeft_4 : decode cX10_isLeft 4 = .ok (.invokevirtual 265, 3) := by decide +kernel
theorem dX10_isLeft_7 : decode cX10_isLeft 7 = .ok (.iconst 1, 1) := by decide +kernel
theorem dX10_isLeft_8 : decode cX10_isLeft 8 = .ok (.isub, 1) := by decide +kernel
theorem dX10_isLeft_9 : decode cX10_isLeft 9 = .ok (.i2l, 1) := by decide +kernel
theorem dX10_isLeft_10 : decode cX10_isLeft 10 = .ok (.invokestatic 120, 3) := by decide +kernel
theorem dX10_isLeft_13 : decode cX10_isLeft 13 = .ok (.ifCond .eq 15, 3) := by decide +kernel
theorem dX10_isLeft_16 : decode cX10_isLeft 16 = .ok (.aload_n 0, 1) := by decide +kernel
theorem dX10_isLeft_17 : decode cX10_isLeft 17 = .ok (.iload_n 1, 1) := by decide +kernel
theorem dX10_isLeft_18 : decode cX10_isLeft 18 = .ok (.invokevirtual 271, 3) := by decide +kernel
theorem dX10_isLeft_21 : decode cX10_isLeft 21 = .ok (.ifCond .eq 7, 3) := by decide +kernel
theorem dX10_isLeft_24 : decode cX10_isLeft 24 = .ok (.iconst 1, 1) := by decide +kernel
theorem dX10_isLeft_25 : decode cX10_isLeft 25 = .ok (.goto 4, 3) := by decide +kernel
theorem dX10_isLeft_28 : decode cX10_isLeft 28 = .ok (.iconst 0, 1) := by decide +kernel
theorem dX10_isLeft_29 : decode cX10_isLeft 29 = .ok (.ireturn, 1) := by decide +kernel
theorem dX10_laysOthers_0 : decode cX10_laysOthers 0 = .ok (.iconst 0, 1) := by decide +kernel
theorem dX10_laysOthers_1 : decode cX10_laysOthers 1 = .ok (.istore_n 1, 1) := by decide +kernel
theorem dX10_laysOthers_2 : decode cX10_laysOthers 2 = .ok (.iload_n 1, 1) := by decide +kernel
theorem dX10_laysOthers_3 : decode cX10_laysOthers 3 = .ok (.sipush 1024, 3) := by decide +kernel
theorem dX10_laysOthers_6 : decode cX10_laysOthers 6 = .ok (.if_icmp .ge 20, 3) := by decide +kernel
theorem dX10_laysOthers_9 : decode cX10_laysOthers 9 = .ok (.aload_n 0, 1) := by decide +kernel
theorem dX10_laysOthers_10 : decode cX10_laysOthers 10 = .ok (.getfield 86, 3) := by decide +kernel
theorem dX10_laysOthers_13 : decode cX10_laysOthers 13 = .ok (.iload_n 1, 1) := by decide +kernel
theorem dX10_laysOthers_14 : decode cX10_laysOthers 14 = .ok (.aload_n 0, 1) := by decide +kernel
theorem dX10_laysOthers_15 : decode cX10_laysOthers 15 = .ok (.iload_n 1, 1) := by decide +kernel
theorem dX10_laysOthers_16 : decode cX10_laysOthers 16 = .ok (.invokevirtual 271, 3) := by decide +kernel
theorem dX10_laysOthers_19 : decode cX10_laysOthers 19 = .ok (.bastore, 1) := by decide +kernel
theorem dX10_laysOthers_20 : decode cX10_laysOthers 20 = .ok (.iinc 1 1, 3) := by decide +kernel
theorem dX10_laysOthers_23 : decode cX10_laysOthers 23 = .ok (.goto (-21), 3) := by decide +kernel
theorem dX10_laysOthers_26 : decode cX10_laysOthers 26 = .ok (.return_, 1) := by decide +kernel
theorem dX10_provedOf_0 : decode cX10_provedOf 0 = .ok (.iconst 0, 1) := by decide +kernel
theorem dX10_provedOf_1 : decode cX10_provedOf 1 = .ok (.istore_n 2, 1) := by decide +kernel
theorem dX10_provedOf_2 : decode cX10_provedOf 2 = .ok (.iconst 0, 1) := by decide +kernel
theorem dX10_provedOf_3 : decode cX10_provedOf 3 = .ok (.istore_n 3, 1) := by decide +kernel
theorem dX10_provedOf_4 : decode cX10_provedOf 4 = .ok (.iconst 0, 1) := by decide +kernel
theorem dX10_provedOf_5 : decode cX10_provedOf 5 = .ok (.istore 4, 2) := by decide +kernel
theorem dX10_provedOf_7 : decode cX10_provedOf 7 = .ok (.iload 4, 2) := by decide +kernel
theorem dX10_provedOf_9 : decode cX10_provedOf 9 = .ok (.aload_n 0, 1) := by decide +kernel
theorem dX10_provedOf_10 : decode cX10_provedOf 10 = .ok (.invokevirtual 265, 3) := by decide +kernel
theorem dX10_provedOf_13 : decode cX10_provedOf 13 = .ok (.if_icmp .ge 67, 3) := by decide +kernel
theorem dX10_provedOf_16 : decode cX10_provedOf 16 = .ok (.iload_n 2, 1) := by decide +kernel
theorem dX10_provedOf_17 : decode cX10_provedOf 17 = .ok (.ifCond .ne 22, 3) := by decide +kernel
theorem dX10_provedOf_20 : decode cX10_provedOf 20 = .ok (.aload_n 0, 1) := by decide +kernel
theorem dX10_provedOf_21 : decode cX10_provedOf 21 = .ok (.getfield 86, 3) := by decide +kernel
theorem dX10_provedOf_24 : decode cX10_provedOf 24 = .ok (.iload 4, 2) := by decide +kernel
theorem dX10_provedOf_26 : decode cX10_provedOf 26 = .ok (.baload, 1) := by decide +kernel
theorem dX10_provedOf_27 : decode cX10_provedOf 27 = .ok (.ifCond .eq 16, 3) := by decide +kernel
theorem dX10_provedOf_30 : decode cX10_provedOf 30 = .ok (.iload 4, 2) := by decide +kernel
theorem dX10_provedOf_32 : decode cX10_provedOf 32 = .ok (.iload_n 1, 1) := by decide +kernel
theorem dX10_provedOf_33 : decode cX10_provedOf 33 = .ok (.invokestatic 297, 3) := by decide +kernel
theorem dX10_provedOf_36 : decode cX10_provedOf 36 = .ok (.ifCond .eq 7, 3) := by decide +kernel
theorem dX10_provedOf_39 : decode cX10_provedOf 39 = .ok (.iconst 1, 1) := by decide +kernel
theorem dX10_provedOf_40 : decode cX10_provedOf 40 = .ok (.goto 4, 3) := by decide +kernel
theorem dX10_provedOf_43 : decode cX10_provedOf 43 = .ok (.iconst 0, 1) := by decide +kernel
theorem dX10_provedOf_44 : decode cX10_provedOf 44 = .ok (.istore_n 2, 1) := by decide +kernel
theorem dX10_provedOf_45 : decode cX10_provedOf 45 = .ok (.iload_n 3, 1) := by decide +kernel
theorem dX10_provedOf_46 : decode cX10_provedOf 46 = .ok (.ifCond .ne 22, 3) := by decide +kernel
theorem dX10_provedOf_49 : decode cX10_provedOf 49 = .ok (.aload_n 0, 1) := by decide +kernel
theorem dX10_provedOf_50 : decode cX10_provedOf 50 = .ok (.getfield 86, 3) := by decide +kernel
theorem dX10_provedOf_53 : decode cX10_provedOf 53 = .ok (.iload 4, 2) := by decide +kernel
theorem dX10_provedOf_55 : decode cX10_provedOf 55 = .ok (.baload, 1) := by decide +kernel
theorem dX10_provedOf_56 : decode cX10_provedOf 56 = .ok (.ifCond .eq 16, 3) := by decide +kernel
theorem dX10_provedOf_59 : decode cX10_provedOf 59 = .ok (.iload 4, 2) := by decide +kernel
theorem dX10_provedOf_61 : decode cX10_provedOf 61 = .ok (.iload_n 1, 1) := by decide +kernel
theorem dX10_provedOf_62 : decode cX10_provedOf 62 = .ok (.invokestatic 297, 3) := by decide +kernel
theorem dX10_provedOf_65 : decode cX10_provedOf 65 = .ok (.ifCond .ne 7, 3) := by decide +kernel
theorem dX10_provedOf_68 : decode cX10_provedOf 68 = .ok (.iconst 1, 1) := by decide +kernel
theorem dX10_provedOf_69 : decode cX10_provedOf 69 = .ok (.goto 4, 3) := by decide +kernel
theorem dX10_provedOf_72 : decode cX10_provedOf 72 = .ok (.iconst 0, 1) := by decide +kernel
theorem dX10_provedOf_73 : decode cX10_provedOf 73 = .ok (.istore_n 3, 1) := by decide +kernel
theorem dX10_provedOf_74 : decode cX10_provedOf 74 = .ok (.iinc 4 1, 3) := by decide +kernel
theorem dX10_provedOf_77 : decode cX10_provedOf 77 = .ok (.goto (-70), 3) := by decide +kernel
theorem dX10_provedOf_80 : decode cX10_provedOf 80 = .ok (.iload_n 2, 1) := by decide +kernel
theorem dX10_provedOf_81 : decode cX10_provedOf 81 = .ok (.iload_n 3, 1) := by decide +kernel
theorem dX10_provedOf_82 : decode cX10_provedOf 82 = .ok (.if_icmp .ne 7, 3) := by decide +kernel
theorem dX10_provedOf_85 : decode cX10_provedOf 85 = .ok (.iconst 2, 1) := by decide +kernel
theorem dX10_provedOf_86 : decode cX10_provedOf 86 = .ok (.goto 12, 3) := by decide +kernel
theorem dX10_provedOf_89 : decode cX10_provedOf 89 = .ok (.iload_n 2, 1) := by decide +kernel
theorem dX10_provedOf_90 : decode cX10_provedOf 90 = .ok (.ifCond .eq 7, 3) := by decide +kernel
theorem dX10_provedOf_93 : decode cX10_provedOf 93 = .ok (.iconst 1, 1) := by decide +kernel
theorem dX10_provedOf_94 : decode cX10_provedOf 94 = .ok (.goto 4, 3) := by decide +kernel
theorem dX10_provedOf_97 : decode cX10_provedOf 97 = .ok (.iconst 0, 1) := by decide +kernel
theorem dX10_provedOf_98 : decode cX10_provedOf 98 = .ok (.ireturn, 1) := by decide +kernel
theorem dX10_proved_0 : decode cX10_proved 0 = .ok (.aload_n 0, 1) := by decide +kernel
theorem dX10_proved_1 : decode cX10_proved 1 = .ok (.iload_n 1, 1) := by decide +kernel
theorem dX10_proved_2 : decode cX10_proved 2 = .ok (.invokevirtual 315, 3) := by decide +kernel
theorem dX10_proved_5 : decode cX10_proved 5 = .ok (.ifCond .ne 5, 3) := by decide +kernel
theorem dX10_proved_8 : decode cX10_proved 8 = .ok (.iconst (-1), 1) := by decide +kernel
theorem dX10_proved_9 : decode cX10_proved 9 = .ok (.ireturn, 1) := by decide +kernel
theorem dX10_proved_10 : decode cX10_proved 10 = .ok (.aload_n 0, 1) := by decide +kernel
theorem dX10_proved_11 : decode cX10_proved 11 = .ok (.invokevirtual 325, 3) := by decide +kernel
theorem dX10_proved_14 : decode cX10_proved 14 = .ok (.aload_n 0, 1) := by decide +kernel
theorem dX10_proved_15 : decode cX10_proved 15 = .ok (.iload_n 1, 1) := by decide +kernel
theorem dX10_proved_16 : decode cX10_proved 16 = .ok (.invokevirtual 328, 3) := by decide +kernel
theorem dX10_proved_19 : decode cX10_proved 19 = .ok (.ireturn, 1) := by decide +kernel
theorem dX10_tells_0 : decode cX10_tells 0 = .ok (.aload_n 0, 1) := by decide +kernel
theorem dX10_tells_1 : decode cX10_tells 1 = .ok (.iload_n 1, 1) := by decide +kernel
theorem dX10_tells_2 : decode cX10_tells 2 = .ok (.invokevirtual 284, 3) := by decide +kernel
theorem dX10_tells_5 : decode cX10_tells 5 = .ok (.ifCond .eq 23, 3) := by decide +kernel
theorem dX10_tells_8 : decode cX10_tells 8 = .ok (.aload_n 0, 1) := by decide +kernel
theorem dX10_tells_9 : decode cX10_tells 9 = .ok (.iload_n 2, 1) := by decide +kernel
theorem dX10_tells_10 : decode cX10_tells 10 = .ok (.invokevirtual 315, 3) := by decide +kernel
theorem dX10_tells_13 : decode cX10_tells 13 = .ok (.ifCond .eq 15, 3) := by decide +kernel
theorem dX10_tells_16 : decode cX10_tells 16 = .ok (.iload_n 3, 1) := by decide +kernel
theorem dX10_tells_17 : decode cX10_tells 17 = .ok (.i2l, 1) := by decide +kernel
theorem dX10_tells_18 : decode cX10_tells 18 = .ok (.lconst 0, 1) := by decide +kernel
theorem dX10_tells_19 : decode cX10_tells 19 = .ok (.ldc2_w 331, 3) := by decide +kernel
theorem dX10_tells_22 : decode cX10_tells 22 = .ok (.invokestatic 120, 3) := by decide +kernel
theorem dX10_tells_25 : decode cX10_tells 25 = .ok (.ifCond .ne 5, 3) := by decide +kernel
theorem dX10_tells_28 : decode cX10_tells 28 = .ok (.iconst (-1), 1) := by decide +kernel
theorem dX10_tells_29 : decode cX10_tells 29 = .ok (.ireturn, 1) := by decide +kernel
theorem dX10_tells_30 : decode cX10_tells 30 = .ok (.iload_n 3, 1) := by decide +kernel
theorem dX10_tells_31 : decode cX10_tells 31 = .ok (.iconst 2, 1) := by decide +kernel
theorem dX10_tells_32 : decode cX10_tells 32 = .ok (.if_icmp .ne 21, 3) := by decide +kernel
theorem dX10_tells_35 : decode cX10_tells 35 = .ok (.aload_n 0, 1) := by decide +kernel
theorem dX10_tells_36 : decode cX10_tells 36 = .ok (.iload_n 1, 1) := by decide +kernel
theorem dX10_tells_37 : decode cX10_tells 37 = .ok (.iload_n 2, 1) := by decide +kernel
theorem dX10_tells_38 : decode cX10_tells 38 = .ok (.iconst 0, 1) := by decide +kernel
theorem dX10_tells_39 : decode cX10_tells 39 = .ok (.invokevirtual 318, 3) := by decide +kernel
theorem dX10_tells_42 : decode cX10_tells 42 = .ok (.ifCond .ne 7, 3) := by decide +kernel
theorem dX10_tells_45 : decode cX10_tells 45 = .ok (.iconst 1, 1) := by decide +kernel
theorem dX10_tells_46 : decode cX10_tells 46 = .ok (.goto 16, 3) := by decide +kernel
theorem dX10_tells_49 : decode cX10_tells 49 = .ok (.iconst 0, 1) := by decide +kernel
theorem dX10_tells_50 : decode cX10_tells 50 = .ok (.goto 12, 3) := by decide +kernel
theorem dX10_tells_53 : decode cX10_tells 53 = .ok (.iload_n 3, 1) := by decide +kernel
theorem dX10_tells_54 : decode cX10_tells 54 = .ok (.ifCond .ne 7, 3) := by decide +kernel
theorem dX10_tells_57 : decode cX10_tells 57 = .ok (.iconst 1, 1) := by decide +kernel
theorem dX10_tells_58 : decode cX10_tells 58 = .ok (.goto 4, 3) := by decide +kernel
theorem dX10_tells_61 : decode cX10_tells 61 = .ok (.iconst 0, 1) := by decide +kernel
theorem dX10_tells_62 : decode cX10_tells 62 = .ok (.istore 4, 2) := by decide +kernel
theorem dX10_tells_64 : decode cX10_tells 64 = .ok (.iload_n 3, 1) := by decide +kernel
theorem dX10_tells_65 : decode cX10_tells 65 = .ok (.iconst 2, 1) := by decide +kernel
theorem dX10_tells_66 : decode cX10_tells 66 = .ok (.if_icmp .ne 21, 3) := by decide +kernel
theorem dX10_tells_69 : decode cX10_tells 69 = .ok (.aload_n 0, 1) := by decide +kernel
theorem dX10_tells_70 : decode cX10_tells 70 = .ok (.iload_n 1, 1) := by decide +kernel
theorem dX10_tells_71 : decode cX10_tells 71 = .ok (.iload_n 2, 1) := by decide +kernel
theorem dX10_tells_72 : decode cX10_tells 72 = .ok (.iconst 1, 1) := by decide +kernel
theorem dX10_tells_73 : decode cX10_tells 73 = .ok (.invokevirtual 318, 3) := by decide +kernel
theorem dX10_tells_76 : decode cX10_tells 76 = .ok (.ifCond .ne 7, 3) := by decide +kernel
theorem dX10_tells_79 : decode cX10_tells 79 = .ok (.iconst 1, 1) := by decide +kernel
theorem dX10_tells_80 : decode cX10_tells 80 = .ok (.goto 17, 3) := by decide +kernel
theorem dX10_tells_83 : decode cX10_tells 83 = .ok (.iconst 0, 1) := by decide +kernel
theorem dX10_tells_84 : decode cX10_tells 84 = .ok (.goto 13, 3) := by decide +kernel
theorem dX10_tells_87 : decode cX10_tells 87 = .ok (.iload_n 3, 1) := by decide +kernel
theorem dX10_tells_88 : decode cX10_tells 88 = .ok (.iconst 1, 1) := by decide +kernel
theorem dX10_tells_89 : decode cX10_tells 89 = .ok (.if_icmp .ne 7, 3) := by decide +kernel
theorem dX10_tells_92 : decode cX10_tells 92 = .ok (.iconst 1, 1) := by decide +kernel
theorem dX10_tells_93 : decode cX10_tells 93 = .ok (.goto 4, 3) := by decide +kernel
theorem dX10_tells_96 : decode cX10_tells 96 = .ok (.iconst 0, 1) := by decide +kernel
theorem dX10_tells_97 : decode cX10_tells 97 = .ok (.istore 5, 2) := by decide +kernel
theorem dX10_tells_99 : decode cX10_tells 99 = .ok (.iconst 0, 1) := by decide +kernel
theorem dX10_tells_100 : decode cX10_tells 100 = .ok (.istore 6, 2) := by decide +kernel
theorem dX10_tells_102 : decode cX10_tells 102 = .ok (.iconst 0, 1) := by decide +kernel
theorem dX10_tells_103 : decode cX10_tells 103 = .ok (.istore 7, 2) := by decide +kernel
theorem dX10_tells_105 : decode cX10_tells 105 = .ok (.iload 7, 2) := by decide +kernel
theorem dX10_tells_107 : decode cX10_tells 107 = .ok (.aload_n 0, 1) := by decide +kernel
theorem dX10_tells_108 : decode cX10_tells 108 = .ok (.invokevirtual 265, 3) := by decide +kernel
theorem dX10_tells_111 : decode cX10_tells 111 = .ok (.if_icmp .ge 50, 3) := by decide +kernel
theorem dX10_tells_114 : decode cX10_tells 114 = .ok (.iload 6, 2) := by decide +kernel
theorem dX10_tells_116 : decode cX10_tells 116 = .ok (.aload_n 0, 1) := by decide +kernel
theorem dX10_tells_117 : decode cX10_tells 117 = .ok (.iload 7, 2) := by decide +kernel
theorem dX10_tells_119 : decode cX10_tells 119 = .ok (.invokevirtual 271, 3) := by decide +kernel
theorem dX10_tells_122 : decode cX10_tells 122 = .ok (.ifCond .eq 29, 3) := by decide +kernel
theorem dX10_tells_125 : decode cX10_tells 125 = .ok (.iload 7, 2) := by decide +kernel
theorem dX10_tells_127 : decode cX10_tells 127 = .ok (.iload_n 2, 1) := by decide +kernel
theorem dX10_tells_128 : decode cX10_tells 128 = .ok (.invokestatic 297, 3) := by decide +kernel
theorem dX10_tells_131 : decode cX10_tells 131 = .ok (.ifCond .eq 11, 3) := by decide +kernel
theorem dX10_tells_134 : decode cX10_tells 134 = .ok (.iload 5, 2) := by decide +kernel
theorem dX10_tells_136 : decode cX10_tells 136 = .ok (.ifCond .eq 15, 3) := by decide +kernel
theorem dX10_tells_139 : decode cX10_tells 139 = .ok (.goto 8, 3) := by decide +kernel
theorem dX10_tells_142 : decode cX10_tells 142 = .ok (.iload 4, 2) := by decide +kernel
theorem dX10_tells_144 : decode cX10_tells 144 = .ok (.ifCond .eq 7, 3) := by decide +kernel
theorem dX10_tells_147 : decode cX10_tells 147 = .ok (.iconst 1, 1) := by decide +kernel
theorem dX10_tells_148 : decode cX10_tells 148 = .ok (.goto 4, 3) := by decide +kernel
theorem dX10_tells_151 : decode cX10_tells 151 = .ok (.iconst 0, 1) := by decide +kernel
theorem dX10_tells_152 : decode cX10_tells 152 = .ok (.iadd, 1) := by decide +kernel
theorem dX10_tells_153 : decode cX10_tells 153 = .ok (.istore 6, 2) := by decide +kernel
theorem dX10_tells_155 : decode cX10_tells 155 = .ok (.iinc 7 1, 3) := by decide +kernel
theorem dX10_tells_158 : decode cX10_tells 158 = .ok (.goto (-53), 3) := by decide +kernel
theorem dX10_tells_161 : decode cX10_tells 161 = .ok (.iload 6, 2) := by decide +kernel
theorem dX10_tells_163 : decode cX10_tells 163 = .ok (.ireturn, 1) := by decide +kernel
theorem dX10_paid_0 : decode cX10_paid 0 = .ok (.aload_n 0, 1) := by decide +kernel
theorem dX10_paid_1 : decode cX10_paid 1 = .ok (.iload_n 1, 1) := by decide +kernel
theorem dX10_paid_2 : decode cX10_paid 2 = .ok (.invokevirtual 284, 3) := by decide +kernel
theorem dX10_paid_5 : decode cX10_paid 5 = .ok (.ifCond .eq 12, 3) := by decide +kernel
theorem dX10_paid_8 : decode cX10_paid 8 = .ok (.aload_n 0, 1) := by decide +kernel
theorem dX10_paid_9 : decode cX10_paid 9 = .ok (.getfield 30, 3) := by decide +kernel
theorem dX10_paid_12 : decode cX10_paid 12 = .ok (.iload_n 1, 1) := by decide +kernel
theorem dX10_paid_13 : decode cX10_paid 13 = .ok (.iaload, 1) := by decide +kernel
theorem dX10_paid_14 : decode cX10_paid 14 = .ok (.goto 4, 3) := by decide +kernel
theorem dX10_paid_17 : decode cX10_paid 17 = .ok (.iconst (-1), 1) := by decide +kernel
theorem dX10_paid_18 : decode cX10_paid 18 = .ok (.ireturn, 1) := by decide +kernel
theorem dX10_sentenceOf_0 : decode cX10_sentenceOf 0 = .ok (.iconst 0, 1) := by decide +kernel
theorem dX10_sentenceOf_1 : decode cX10_sentenceOf 1 = .ok (.istore_n 3, 1) := by decide +kernel
theorem dX10_sentenceOf_2 : decode cX10_sentenceOf 2 = .ok (.iconst 0, 1) := by decide +kernel
theorem dX10_sentenceOf_3 : decode cX10_sentenceOf 3 = .ok (.istore 4, 2) := by decide +kernel
theorem dX10_sentenceOf_5 : decode cX10_sentenceOf 5 = .ok (.iconst 0, 1) := by decide +kernel
theorem dX10_sentenceOf_6 : decode cX10_sentenceOf 6 = .ok (.istore 5, 2) := by decide +kernel
theorem dX10_sentenceOf_8 : decode cX10_sentenceOf 8 = .ok (.iload 5, 2) := by decide +kernel
theorem dX10_sentenceOf_10 : decode cX10_sentenceOf 10 = .ok (.aload_n 0, 1) := by decide +kernel
theorem dX10_sentenceOf_11 : decode cX10_sentenceOf 11 = .ok (.getfield 13, 3) := by decide +kernel
theorem dX10_sentenceOf_14 : decode cX10_sentenceOf 14 = .ok (.if_icmp .ge 50, 3) := by decide +kernel
theorem dX10_sentenceOf_17 : decode cX10_sentenceOf 17 = .ok (.aload_n 0, 1) := by decide +kernel
theorem dX10_sentenceOf_18 : decode cX10_sentenceOf 18 = .ok (.iload 5, 2) := by decide +kernel
theorem dX10_sentenceOf_20 : decode cX10_sentenceOf 20 = .ok (.invokevirtual 328, 3) := by decide +kernel
theorem dX10_sentenceOf_23 : decode cX10_sentenceOf 23 = .ok (.istore 6, 2) := by decide +kernel
theorem dX10_sentenceOf_25 : decode cX10_sentenceOf 25 = .ok (.iload_n 3, 1) := by decide +kernel
theorem dX10_sentenceOf_26 : decode cX10_sentenceOf 26 = .ok (.iload 6, 2) := by decide +kernel
theorem dX10_sentenceOf_28 : decode cX10_sentenceOf 28 = .ok (.iconst 1, 1) := by decide +kernel
theorem dX10_sentenceOf_29 : decode cX10_sentenceOf 29 = .ok (.if_icmp .ne 10, 3) := by decide +kernel
theorem dX10_sentenceOf_32 : decode cX10_sentenceOf 32 = .ok (.iconst 1, 1) := by decide +kernel
theorem dX10_sentenceOf_33 : decode cX10_sentenceOf 33 = .ok (.iload 5, 2) := by decide +kernel
theorem dX10_sentenceOf_35 : decode cX10_sentenceOf 35 = .ok (.ishl, 1) := by decide +kernel
theorem dX10_sentenceOf_36 : decode cX10_sentenceOf 36 = .ok (.goto 4, 3) := by decide +kernel
theorem dX10_sentenceOf_39 : decode cX10_sentenceOf 39 = .ok (.iconst 0, 1) := by decide +kernel
theorem dX10_sentenceOf_40 : decode cX10_sentenceOf 40 = .ok (.ior, 1) := by decide +kernel
theorem dX10_sentenceOf_41 : decode cX10_sentenceOf 41 = .ok (.istore_n 3, 1) := by decide +kernel
theorem dX10_sentenceOf_42 : decode cX10_sentenceOf 42 = .ok (.iload 4, 2) := by decide +kernel
theorem dX10_sentenceOf_44 : decode cX10_sentenceOf 44 = .ok (.iload 6, 2) := by decide +kernel
theorem dX10_sentenceOf_46 : decode cX10_sentenceOf 46 = .ok (.iconst 2, 1) := by decide +kernel
theorem dX10_sentenceOf_47 : decode cX10_sentenceOf 47 = .ok (.if_icmp .ge 7, 3) := by decide +kernel
theorem dX10_sentenceOf_50 : decode cX10_sentenceOf 50 = .ok (.iconst 1, 1) := by decide +kernel
theorem dX10_sentenceOf_51 : decode cX10_sentenceOf 51 = .ok (.goto 4, 3) := by decide +kernel
theorem dX10_sentenceOf_54 : decode cX10_sentenceOf 54 = .ok (.iconst 0, 1) := by decide +kernel
theorem dX10_sentenceOf_55 : decode cX10_sentenceOf 55 = .ok (.iadd, 1) := by decide +kernel
theorem dX10_sentenceOf_56 : decode cX10_sentenceOf 56 = .ok (.istore 4, 2) := by decide +kernel
theorem dX10_sentenceOf_58 : decode cX10_sentenceOf 58 = .ok (.iinc 5 1, 3) := by decide +kernel
theorem dX10_sentenceOf_61 : decode cX10_sentenceOf 61 = .ok (.goto (-53), 3) := by decide +kernel
theorem dX10_sentenceOf_64 : decode cX10_sentenceOf 64 = .ok (.aload_n 0, 1) := by decide +kernel
theorem dX10_sentenceOf_65 : decode cX10_sentenceOf 65 = .ok (.invokevirtual 259, 3) := by decide +kernel
theorem dX10_sentenceOf_68 : decode cX10_sentenceOf 68 = .ok (.aload_n 0, 1) := by decide +kernel
theorem dX10_sentenceOf_69 : decode cX10_sentenceOf 69 = .ok (.iload_n 3, 1) := by decide +kernel
theorem dX10_sentenceOf_70 : decode cX10_sentenceOf 70 = .ok (.putfield 239, 3) := by decide +kernel
theorem dX10_sentenceOf_73 : decode cX10_sentenceOf 73 = .ok (.aload_n 0, 1) := by decide +kernel
theorem dX10_sentenceOf_74 : decode cX10_sentenceOf 74 = .ok (.getfield 72, 3) := by decide +kernel
theorem dX10_sentenceOf_77 : decode cX10_sentenceOf 77 = .ok (.bipush 112, 2) := by decide +kernel
theorem dX10_sentenceOf_79 : decode cX10_sentenceOf 79 = .ok (.iload_n 1, 1) := by decide +kernel
theorem dX10_sentenceOf_80 : decode cX10_sentenceOf 80 = .ok (.iastore, 1) := by decide +kernel
theorem dX10_sentenceOf_81 : decode cX10_sentenceOf 81 = .ok (.aload_n 0, 1) := by decide +kernel
theorem dX10_sentenceOf_82 : decode cX10_sentenceOf 82 = .ok (.getfield 72, 3) := by decide +kernel
theorem dX10_sentenceOf_85 : decode cX10_sentenceOf 85 = .ok (.bipush 109, 2) := by decide +kernel
theorem dX10_sentenceOf_87 : decode cX10_sentenceOf 87 = .ok (.iload 4, 2) := by decide +kernel
theorem dX10_sentenceOf_89 : decode cX10_sentenceOf 89 = .ok (.iastore, 1) := by decide +kernel
theorem dX10_sentenceOf_90 : decode cX10_sentenceOf 90 = .ok (.aload_n 0, 1) := by decide +kernel
theorem dX10_sentenceOf_91 : decode cX10_sentenceOf 91 = .ok (.getfield 72, 3) := by decide +kernel
theorem dX10_sentenceOf_94 : decode cX10_sentenceOf 94 = .ok (.bipush 116, 2) := by decide +kernel
theorem dX10_sentenceOf_96 : decode cX10_sentenceOf 96 = .ok (.iload_n 2, 1) := by decide +kernel
theorem dX10_sentenceOf_97 : decode cX10_sentenceOf 97 = .ok (.iastore, 1) := by decide +kernel
theorem dX10_sentenceOf_98 : decode cX10_sentenceOf 98 = .ok (.aload_n 0, 1) := by decide +kernel
theorem dX10_sentenceOf_99 : decode cX10_sentenceOf 99 = .ok (.bipush 115, 2) := by decide +kernel
theorem dX10_sentenceOf_101 : decode cX10_sentenceOf 101 = .ok (.sipush 999, 3) := by decide +kernel
theorem dX10_sentenceOf_104 : decode cX10_sentenceOf 104 = .ok (.invokevirtual 307, 3) := by decide +kernel
theorem dX10_sentenceOf_107 : decode cX10_sentenceOf 107 = .ok (.ireturn, 1) := by decide +kernel
theorem dX10_sentence_0 : decode cX10_sentence 0 = .ok (.aload_n 0, 1) := by decide +kernel
theorem dX10_sentence_1 : decode cX10_sentence 1 = .ok (.iload_n 1, 1) := by decide +kernel
theorem dX10_sentence_2 : decode cX10_sentence 2 = .ok (.invokevirtual 284, 3) := by decide +kernel
theorem dX10_sentence_5 : decode cX10_sentence 5 = .ok (.ifCond .ne 5, 3) := by decide +kernel
theorem dX10_sentence_8 : decode cX10_sentence 8 = .ok (.iconst (-1), 1) := by decide +kernel
theorem dX10_sentence_9 : decode cX10_sentence 9 = .ok (.ireturn, 1) := by decide +kernel
theorem dX10_sentence_10 : decode cX10_sentence 10 = .ok (.aload_n 0, 1) := by decide +kernel
theorem dX10_sentence_11 : decode cX10_sentence 11 = .ok (.invokevirtual 325, 3) := by decide +kernel
theorem dX10_sentence_14 : decode cX10_sentence 14 = .ok (.aload_n 0, 1) := by decide +kernel
theorem dX10_sentence_15 : decode cX10_sentence 15 = .ok (.iload_n 1, 1) := by decide +kernel
theorem dX10_sentence_16 : decode cX10_sentence 16 = .ok (.aload_n 0, 1) := by decide +kernel
theorem dX10_sentence_17 : decode cX10_sentence 17 = .ok (.getfield 30, 3) := by decide +kernel
theorem dX10_sentence_20 : decode cX10_sentence 20 = .ok (.iload_n 1, 1) := by decide +kernel
theorem dX10_sentence_21 : decode cX10_sentence 21 = .ok (.iaload, 1) := by decide +kernel
theorem dX10_sentence_22 : decode cX10_sentence 22 = .ok (.invokevirtual 333, 3) := by decide +kernel
theorem dX10_sentence_25 : decode cX10_sentence 25 = .ok (.ireturn, 1) := by decide +kernel
theorem dX10_firstWho_0 : decode cX10_firstWho 0 = .ok (.iconst 0, 1) := by decide +kernel
theorem dX10_firstWho_1 : decode cX10_firstWho 1 = .ok (.istore_n 2, 1) := by decide +kernel
theorem dX10_firstWho_2 : decode cX10_firstWho 2 = .ok (.iload_n 2, 1) := by decide +kernel
theorem dX10_firstWho_3 : decode cX10_firstWho 3 = .ok (.aload_n 0, 1) := by decide +kernel
theorem dX10_firstWho_4 : decode cX10_firstWho 4 = .ok (.getfield 117, 3) := by decide +kernel
theorem dX10_firstWho_7 : decode cX10_firstWho 7 = .ok (.if_icmp .ge 31, 3) := by decide +kernel
theorem dX10_firstWho_10 : decode cX10_firstWho 10 = .ok (.aload_n 0, 1) := by decide +kernel
theorem dX10_firstWho_11 : decode cX10_firstWho 11 = .ok (.iload_n 2, 1) := by decide +kernel
theorem dX10_firstWho_12 : decode cX10_firstWho 12 = .ok (.iload_n 1, 1) := by decide +kernel
theorem dX10_firstWho_13 : decode cX10_firstWho 13 = .ok (.iconst 0, 1) := by decide +kernel
theorem dX10_firstWho_14 : decode cX10_firstWho 14 = .ok (.invokevirtual 318, 3) := by decide +kernel
theorem dX10_firstWho_17 : decode cX10_firstWho 17 = .ok (.ifCond .ne 13, 3) := by decide +kernel
theorem dX10_firstWho_20 : decode cX10_firstWho 20 = .ok (.aload_n 0, 1) := by decide +kernel
theorem dX10_firstWho_21 : decode cX10_firstWho 21 = .ok (.iload_n 2, 1) := by decide +kernel
theorem dX10_firstWho_22 : decode cX10_firstWho 22 = .ok (.iload_n 1, 1) := by decide +kernel
theorem dX10_firstWho_23 : decode cX10_firstWho 23 = .ok (.iconst 1, 1) := by decide +kernel
theorem dX10_firstWho_24 : decode cX10_firstWho 24 = .ok (.invokevirtual 318, 3) := by decide +kernel
theorem dX10_firstWho_27 : decode cX10_firstWho 27 = .ok (.ifCond .eq 5, 3) := by decide +kernel
theorem dX10_firstWho_30 : decode cX10_firstWho 30 = .ok (.iload_n 2, 1) := by decide +kernel
theorem dX10_firstWho_31 : decode cX10_firstWho 31 = .ok (.ireturn, 1) := by decide +kernel
theorem dX10_firstWho_32 : decode cX10_firstWho 32 = .ok (.iinc 2 1, 3) := by decide +kernel
theorem dX10_firstWho_35 : decode cX10_firstWho 35 = .ok (.goto (-33), 3) := by decide +kernel
theorem dX10_firstWho_38 : decode cX10_firstWho 38 = .ok (.iconst (-1), 1) := by decide +kernel
theorem dX10_firstWho_39 : decode cX10_firstWho 39 = .ok (.ireturn, 1) := by decide +kernel
theorem dX10_open_0 : decode cX10_open 0 = .ok (.iconst 0, 1) := by decide +kernel
theorem dX10_open_1 : decode cX10_open 1 = .ok (.istore_n 1, 1) := by decide +kernel
theorem dX10_open_2 : decode cX10_open 2 = .ok (.iconst 0, 1) := by decide +kernel
theorem dX10_open_3 : decode cX10_open 3 = .ok (.istore_n 2, 1) := by decide +kernel
theorem dX10_open_4 : decode cX10_open 4 = .ok (.iload_n 2, 1) := by decide +kernel
theorem dX10_open_5 : decode cX10_open 5 = .ok (.aload_n 0, 1) := by decide +kernel
theorem dX10_open_6 : decode cX10_open 6 = .ok (.getfield 13, 3) := by decide +kernel
theorem dX10_open_9 : decode cX10_open 9 = .ok (.if_icmp .ge 28, 3) := by decide +kernel
theorem dX10_open_12 : decode cX10_open 12 = .ok (.iload_n 1, 1) := by decide +kernel
theorem dX10_open_13 : decode cX10_open 13 = .ok (.aload_n 0, 1) := by decide +kernel
theorem dX10_open_14 : decode cX10_open 14 = .ok (.iload_n 2, 1) := by decide +kernel
theorem dX10_open_15 : decode cX10_open 15 = .ok (.invokevirtual 336, 3) := by decide +kernel
theorem dX10_open_18 : decode cX10_open 18 = .ok (.iconst (-1), 1) := by decide +kernel
theorem dX10_open_19 : decode cX10_open 19 = .ok (.if_icmp .eq 9, 3) := by decide +kernel
theorem dX10_open_22 : decode cX10_open 22 = .ok (.iconst 1, 1) := by decide +kernel
theorem dX10_open_23 : decode cX10_open 23 = .ok (.iload_n 2, 1) := by decide +kernel
theorem dX10_open_24 : decode cX10_open 24 = .ok (.ishl, 1) := by decide +kernel
theorem dX10_open_25 : decode cX10_open 25 = .ok (.goto 4, 3) := by decide +kernel
theorem dX10_open_28 : decode cX10_open 28 = .ok (.iconst 0, 1) := by decide +kernel
theorem dX10_open_29 : decode cX10_open 29 = .ok (.ior, 1) := by decide +kernel
theorem dX10_open_30 : decode cX10_open 30 = .ok (.istore_n 1, 1) := by decide +kernel
theorem dX10_open_31 : decode cX10_open 31 = .ok (.iinc 2 1, 3) := by decide +kernel
theorem dX10_open_34 : decode cX10_open 34 = .ok (.goto (-30), 3) := by decide +kernel
theorem dX10_open_37 : decode cX10_open 37 = .ok (.iload_n 1, 1) := by decide +kernel
theorem dX10_open_38 : decode cX10_open 38 = .ok (.ireturn, 1) := by decide +kernel
theorem dX10_statesMany_0 : decode cX10_statesMany 0 = .ok (.iconst 1, 1) := by decide +kernel
theorem dX10_statesMany_1 : decode cX10_statesMany 1 = .ok (.istore_n 1, 1) := by decide +kernel
theorem dX10_statesMany_2 : decode cX10_statesMany 2 = .ok (.iconst 0, 1) := by decide +kernel
theorem dX10_statesMany_3 : decode cX10_statesMany 3 = .ok (.istore_n 2, 1) := by decide +kernel
theorem dX10_statesMany_4 : decode cX10_statesMany 4 = .ok (.iload_n 2, 1) := by decide +kernel
theorem dX10_statesMany_5 : decode cX10_statesMany 5 = .ok (.aload_n 0, 1) := by decide +kernel
theorem dX10_statesMany_6 : decode cX10_statesMany 6 = .ok (.getfield 13, 3) := by decide +kernel
theorem dX10_statesMany_9 : decode cX10_statesMany 9 = .ok (.if_icmp .ge 13, 3) := by decide +kernel
theorem dX10_statesMany_12 : decode cX10_statesMany 12 = .ok (.iload_n 1, 1) := by decide +kernel
theorem dX10_statesMany_13 : decode cX10_statesMany 13 = .ok (.iconst 3, 1) := by decide +kernel
theorem dX10_statesMany_14 : decode cX10_statesMany 14 = .ok (.imul, 1) := by decide +kernel
theorem dX10_statesMany_15 : decode cX10_statesMany 15 = .ok (.istore_n 1, 1) := by decide +kernel
theorem dX10_statesMany_16 : decode cX10_statesMany 16 = .ok (.iinc 2 1, 3) := by decide +kernel
theorem dX10_statesMany_19 : decode cX10_statesMany 19 = .ok (.goto (-15), 3) := by decide +kernel
theorem dX10_statesMany_22 : decode cX10_statesMany 22 = .ok (.iload_n 1, 1) := by decide +kernel
theorem dX10_statesMany_23 : decode cX10_statesMany 23 = .ok (.ireturn, 1) := by decide +kernel
theorem dX10_three_0 : decode cX10_three 0 = .ok (.iconst 1, 1) := by decide +kernel
theorem dX10_three_1 : decode cX10_three 1 = .ok (.istore_n 1, 1) := by decide +kernel
theorem dX10_three_2 : decode cX10_three 2 = .ok (.iconst 0, 1) := by decide +kernel
theorem dX10_three_3 : decode cX10_three 3 = .ok (.istore_n 2, 1) := by decide +kernel
theorem dX10_three_4 : decode cX10_three 4 = .ok (.iload_n 2, 1) := by decide +kernel
theorem dX10_three_5 : decode cX10_three 5 = .ok (.iload_n 0, 1) := by decide +kernel
theorem dX10_three_6 : decode cX10_three 6 = .ok (.if_icmp .ge 13, 3) := by decide +kernel
theorem dX10_three_9 : decode cX10_three 9 = .ok (.iload_n 1, 1) := by decide +kernel
theorem dX10_three_10 : decode cX10_three 10 = .ok (.iconst 3, 1) := by decide +kernel
theorem dX10_three_11 : decode cX10_three 11 = .ok (.imul, 1) := by decide +kernel
theorem dX10_three_12 : decode cX10_three 12 = .ok (.istore_n 1, 1) := by decide +kernel
theorem dX10_three_13 : decode cX10_three 13 = .ok (.iinc 2 1, 3) := by decide +kernel
theorem dX10_three_16 : decode cX10_three 16 = .ok (.goto (-12), 3) := by decide +kernel
theorem dX10_three_19 : decode cX10_three 19 = .ok (.iload_n 1, 1) := by decide +kernel
theorem dX10_three_20 : decode cX10_three 20 = .ok (.ireturn, 1) := by decide +kernel
theorem dX10_digit_0 : decode cX10_digit 0 = .ok (.iload_n 0, 1) := by decide +kernel
theorem dX10_digit_1 : decode cX10_digit 1 = .ok (.iload_n 1, 1) := by decide +kernel
theorem dX10_digit_2 : decode cX10_digit 2 = .ok (.invokestatic 339, 3) := by decide +kernel
theorem dX10_digit_5 : decode cX10_digit 5 = .ok (.idiv, 1) := by decide +kernel
theorem dX10_digit_6 : decode cX10_digit 6 = .ok (.iconst 3, 1) := by decide +kernel
theorem dX10_digit_7 : decode cX10_digit 7 = .ok (.irem, 1) := by decide +kernel
theorem dX10_digit_8 : decode cX10_digit 8 = .ok (.ireturn, 1) := by decide +kernel
theorem dX10_worldOf_0 : decode cX10_worldOf 0 = .ok (.iconst 0, 1) := by decide +kernel
theorem dX10_worldOf_1 : decode cX10_worldOf 1 = .ok (.istore_n 2, 1) := by decide +kernel
theorem dX10_worldOf_2 : decode cX10_worldOf 2 = .ok (.iload_n 1, 1) := by decide +kernel
theorem dX10_worldOf_3 : decode cX10_worldOf 3 = .ok (.istore_n 3, 1) := by decide +kernel
theorem dX10_worldOf_4 : decode cX10_worldOf 4 = .ok (.iconst 0, 1) := by decide +kernel
theorem dX10_worldOf_5 : decode cX10_worldOf 5 = .ok (.istore 4, 2) := by decide +kernel
theorem dX10_worldOf_7 : decode cX10_worldOf 7 = .ok (.iload 4, 2) := by decide +kernel
theorem dX10_worldOf_9 : decode cX10_worldOf 9 = .ok (.aload_n 0, 1) := by decide +kernel
theorem dX10_worldOf_10 : decode cX10_worldOf 10 = .ok (.getfield 13, 3) := by decide +kernel
theorem dX10_worldOf_13 : decode cX10_worldOf 13 = .ok (.if_icmp .ge 31, 3) := by decide +kernel
theorem dX10_worldOf_16 : decode cX10_worldOf 16 = .ok (.iload_n 3, 1) := by decide +kernel
theorem dX10_worldOf_17 : decode cX10_worldOf 17 = .ok (.iconst 3, 1) := by decide +kernel
theorem dX10_worldOf_18 : decode cX10_worldOf 18 = .ok (.irem, 1) := by decide +kernel
theorem dX10_worldOf_19 : decode cX10_worldOf 19 = .ok (.iconst 2, 1) := by decide +kernel
theorem dX10_worldOf_20 : decode cX10_worldOf 20 = .ok (.if_icmp .ne 5, 3) := by decide +kernel
theorem dX10_worldOf_23 : decode cX10_worldOf 23 = .ok (.iconst (-1), 1) := by decide +kernel
theorem dX10_worldOf_24 : decode cX10_worldOf 24 = .ok (.ireturn, 1) := by decide +kernel
theorem dX10_worldOf_25 : decode cX10_worldOf 25 = .ok (.iload_n 2, 1) := by decide +kernel
theorem dX10_worldOf_26 : decode cX10_worldOf 26 = .ok (.iload_n 3, 1) := by decide +kernel
theorem dX10_worldOf_27 : decode cX10_worldOf 27 = .ok (.iconst 3, 1) := by decide +kernel
theorem dX10_worldOf_28 : decode cX10_worldOf 28 = .ok (.irem, 1) := by decide +kernel
theorem dX10_worldOf_29 : decode cX10_worldOf 29 = .ok (.iload 4, 2) := by decide +kernel
theorem dX10_worldOf_31 : decode cX10_worldOf 31 = .ok (.ishl, 1) := by decide +kernel
theorem dX10_worldOf_32 : decode cX10_worldOf 32 = .ok (.ior, 1) := by decide +kernel
theorem dX10_worldOf_33 : decode cX10_worldOf 33 = .ok (.istore_n 2, 1) := by decide +kernel
theorem dX10_worldOf_34 : decode cX10_worldOf 34 = .ok (.iload_n 3, 1) := by decide +kernel
theorem dX10_worldOf_35 : decode cX10_worldOf 35 = .ok (.iconst 3, 1) := by decide +kernel
theorem dX10_worldOf_36 : decode cX10_worldOf 36 = .ok (.idiv, 1) := by decide +kernel
theorem dX10_worldOf_37 : decode cX10_worldOf 37 = .ok (.istore_n 3, 1) := by decide +kernel
theorem dX10_worldOf_38 : decode cX10_worldOf 38 = .ok (.iinc 4 1, 3) := by decide +kernel
theorem dX10_worldOf_41 : decode cX10_worldOf 41 = .ok (.goto (-34), 3) := by decide +kernel
theorem dX10_worldOf_44 : decode cX10_worldOf 44 = .ok (.iload_n 2, 1) := by decide +kernel
theorem dX10_worldOf_45 : decode cX10_worldOf 45 = .ok (.ireturn, 1) := by decide +kernel
theorem dX10_firstOpen_0 : decode cX10_firstOpen 0 = .ok (.iconst 0, 1) := by decide +kernel
theorem dX10_firstOpen_1 : decode cX10_firstOpen 1 = .ok (.istore_n 2, 1) := by decide +kernel
theorem dX10_firstOpen_2 : decode cX10_firstOpen 2 = .ok (.iload_n 1, 1) := by decide +kernel
theorem dX10_firstOpen_3 : decode cX10_firstOpen 3 = .ok (.iload_n 2, 1) := by decide +kernel
theorem dX10_firstOpen_4 : decode cX10_firstOpen 4 = .ok (.invokestatic 342, 3) := by decide +kernel
theorem dX10_firstOpen_7 : decode cX10_firstOpen 7 = .ok (.iconst 2, 1) := by decide +kernel
theorem dX10_firstOpen_8 : decode cX10_firstOpen 8 = .ok (.if_icmp .eq 9, 3) := by decide +kernel
theorem dX10_firstOpen_11 : decode cX10_firstOpen 11 = .ok (.iinc 2 1, 3) := by decide +kernel
theorem dX10_firstOpen_14 : decode cX10_firstOpen 14 = .ok (.goto (-12), 3) := by decide +kernel
theorem dX10_firstOpen_17 : decode cX10_firstOpen 17 = .ok (.iload_n 2, 1) := by decide +kernel
theorem dX10_firstOpen_18 : decode cX10_firstOpen 18 = .ok (.ireturn, 1) := by decide +kernel
theorem dX10_laysStates_0 : decode cX10_laysStates 0 = .ok (.aload_n 0, 1) := by decide +kernel
theorem dX10_laysStates_1 : decode cX10_laysStates 1 = .ok (.invokevirtual 345, 3) := by decide +kernel
theorem dX10_laysStates_4 : decode cX10_laysStates 4 = .ok (.istore_n 3, 1) := by decide +kernel
theorem dX10_laysStates_5 : decode cX10_laysStates 5 = .ok (.iconst 0, 1) := by decide +kernel
theorem dX10_laysStates_6 : decode cX10_laysStates 6 = .ok (.istore 4, 2) := by decide +kernel
theorem dX10_laysStates_8 : decode cX10_laysStates 8 = .ok (.iload 4, 2) := by decide +kernel
theorem dX10_laysStates_10 : decode cX10_laysStates 10 = .ok (.iload_n 3, 1) := by decide +kernel
theorem dX10_laysStates_11 : decode cX10_laysStates 11 = .ok (.if_icmp .ge 273, 3) := by decide +kernel
theorem dX10_laysStates_14 : decode cX10_laysStates 14 = .ok (.aload_n 0, 1) := by decide +kernel
theorem dX10_laysStates_15 : decode cX10_laysStates 15 = .ok (.iload 4, 2) := by decide +kernel
theorem dX10_laysStates_17 : decode cX10_laysStates 17 = .ok (.invokevirtual 348, 3) := by decide +kernel
theorem dX10_laysStates_20 : decode cX10_laysStates 20 = .ok (.istore 5, 2) := by decide +kernel
theorem dX10_laysStates_22 : decode cX10_laysStates 22 = .ok (.iload 5, 2) := by decide +kernel
theorem dX10_laysStates_24 : decode cX10_laysStates 24 = .ok (.iconst (-1), 1) := by decide +kernel
theorem dX10_laysStates_25 : decode cX10_laysStates 25 = .ok (.if_icmp .eq 66, 3) := by decide +kernel
theorem dX10_laysStates_28 : decode cX10_laysStates 28 = .ok (.aload_n 0, 1) := by decide +kernel
theorem dX10_laysStates_29 : decode cX10_laysStates 29 = .ok (.getfield 102, 3) := by decide +kernel
theorem dX10_laysStates_32 : decode cX10_laysStates 32 = .ok (.iload 4, 2) := by decide +kernel
theorem dX10_laysStates_34 : decode cX10_laysStates 34 = .ok (.aload_n 0, 1) := by decide +kernel
theorem dX10_laysStates_35 : decode cX10_laysStates 35 = .ok (.iload 5, 2) := by decide +kernel
theorem dX10_laysStates_37 : decode cX10_laysStates 37 = .ok (.invokevirtual 271, 3) := by decide +kernel
theorem dX10_laysStates_40 : decode cX10_laysStates 40 = .ok (.ifCond .eq 16, 3) := by decide +kernel
theorem dX10_laysStates_43 : decode cX10_laysStates 43 = .ok (.iload 5, 2) := by decide +kernel
theorem dX10_laysStates_45 : decode cX10_laysStates 45 = .ok (.iload_n 1, 1) := by decide +kernel
theorem dX10_laysStates_46 : decode cX10_laysStates 46 = .ok (.invokestatic 297, 3) := by decide +kernel
theorem dX10_laysStates_49 : decode cX10_laysStates 49 = .ok (.ifCond .eq 7, 3) := by decide +kernel
theorem dX10_laysStates_52 : decode cX10_laysStates 52 = .ok (.iconst 1, 1) := by decide +kernel
theorem dX10_laysStates_53 : decode cX10_laysStates 53 = .ok (.goto 4, 3) := by decide +kernel
theorem dX10_laysStates_56 : decode cX10_laysStates 56 = .ok (.iconst 0, 1) := by decide +kernel
theorem dX10_laysStates_57 : decode cX10_laysStates 57 = .ok (.iastore, 1) := by decide +kernel
theorem dX10_laysStates_58 : decode cX10_laysStates 58 = .ok (.aload_n 0, 1) := by decide +kernel
theorem dX10_laysStates_59 : decode cX10_laysStates 59 = .ok (.getfield 105, 3) := by decide +kernel
theorem dX10_laysStates_62 : decode cX10_laysStates 62 = .ok (.iload 4, 2) := by decide +kernel
theorem dX10_laysStates_64 : decode cX10_laysStates 64 = .ok (.aload_n 0, 1) := by decide +kernel
theorem dX10_laysStates_65 : decode cX10_laysStates 65 = .ok (.iload 5, 2) := by decide +kernel
theorem dX10_laysStates_67 : decode cX10_laysStates 67 = .ok (.invokevirtual 271, 3) := by decide +kernel
theorem dX10_laysStates_70 : decode cX10_laysStates 70 = .ok (.ifCond .eq 16, 3) := by decide +kernel
theorem dX10_laysStates_73 : decode cX10_laysStates 73 = .ok (.iload 5, 2) := by decide +kernel
theorem dX10_laysStates_75 : decode cX10_laysStates 75 = .ok (.iload_n 1, 1) := by decide +kernel
theorem dX10_laysStates_76 : decode cX10_laysStates 76 = .ok (.invokestatic 297, 3) := by decide +kernel
theorem dX10_laysStates_79 : decode cX10_laysStates 79 = .ok (.ifCond .ne 7, 3) := by decide +kernel
theorem dX10_laysStates_82 : decode cX10_laysStates 82 = .ok (.iconst 1, 1) := by decide +kernel
theorem dX10_laysStates_83 : decode cX10_laysStates 83 = .ok (.goto 4, 3) := by decide +kernel
theorem dX10_laysStates_86 : decode cX10_laysStates 86 = .ok (.iconst 0, 1) := by decide +kernel
theorem dX10_laysStates_87 : decode cX10_laysStates 87 = .ok (.iastore, 1) := by decide +kernel
theorem dX10_laysStates_88 : decode cX10_laysStates 88 = .ok (.goto 75, 3) := by decide +kernel
theorem dX10_laysStates_91 : decode cX10_laysStates 91 = .ok (.aload_n 0, 1) := by decide +kernel
theorem dX10_laysStates_92 : decode cX10_laysStates 92 = .ok (.iload 4, 2) := by decide +kernel
theorem dX10_laysStates_94 : decode cX10_laysStates 94 = .ok (.invokevirtual 351, 3) := by decide +kernel
theorem dX10_laysStates_97 : decode cX10_laysStates 97 = .ok (.istore 6, 2) := by decide +kernel
theorem dX10_laysStates_99 : decode cX10_laysStates 99 = .ok (.iload 4, 2) := by decide +kernel
theorem dX10_laysStates_101 : decode cX10_laysStates 101 = .ok (.iload 6, 2) := by decide +kernel
theorem dX10_laysStates_103 : decode cX10_laysStates 103 = .ok (.invokestatic 339, 3) := by decide +kernel
theorem dX10_laysStates_106 : decode cX10_laysStates 106 = .ok (.isub, 1) := by decide +kernel
theorem dX10_laysStates_107 : decode cX10_laysStates 107 = .ok (.istore 7, 2) := by decide +kernel
theorem dX10_laysStates_109 : decode cX10_laysStates 109 = .ok (.iload 7, 2) := by decide +kernel
theorem dX10_laysStates_111 : decode cX10_laysStates 111 = .ok (.iload 6, 2) := by decide +kernel
theorem dX10_laysStates_113 : decode cX10_laysStates 113 = .ok (.invokestatic 339, 3) := by decide +kernel
theorem dX10_laysStates_116 : decode cX10_laysStates 116 = .ok (.isub, 1) := by decide +kernel
theorem dX10_laysStates_117 : decode cX10_laysStates 117 = .ok (.istore 8, 2) := by decide +kernel
theorem dX10_laysStates_119 : decode cX10_laysStates 119 = .ok (.aload_n 0, 1) := by decide +kernel
theorem dX10_laysStates_120 : decode cX10_laysStates 120 = .ok (.getfield 102, 3) := by decide +kernel
theorem dX10_laysStates_123 : decode cX10_laysStates 123 = .ok (.iload 4, 2) := by decide +kernel
theorem dX10_laysStates_125 : decode cX10_laysStates 125 = .ok (.aload_n 0, 1) := by decide +kernel
theorem dX10_laysStates_126 : decode cX10_laysStates 126 = .ok (.getfield 102, 3) := by decide +kernel
theorem dX10_laysStates_129 : decode cX10_laysStates 129 = .ok (.iload 7, 2) := by decide +kernel
theorem dX10_laysStates_131 : decode cX10_laysStates 131 = .ok (.iaload, 1) := by decide +kernel
theorem dX10_laysStates_132 : decode cX10_laysStates 132 = .ok (.aload_n 0, 1) := by decide +kernel
theorem dX10_laysStates_133 : decode cX10_laysStates 133 = .ok (.getfield 102, 3) := by decide +kernel
theorem dX10_laysStates_136 : decode cX10_laysStates 136 = .ok (.iload 8, 2) := by decide +kernel
theorem dX10_laysStates_138 : decode cX10_laysStates 138 = .ok (.iaload, 1) := by decide +kernel
theorem dX10_laysStates_139 : decode cX10_laysStates 139 = .ok (.iadd, 1) := by decide +kernel
theorem dX10_laysStates_140 : decode cX10_laysStates 140 = .ok (.iastore, 1) := by decide +kernel
theorem dX10_laysStates_141 : decode cX10_laysStates 141 = .ok (.aload_n 0, 1) := by decide +kernel
theorem dX10_laysStates_142 : decode cX10_laysStates 142 = .ok (.getfield 105, 3) := by decide +kernel
theorem dX10_laysStates_145 : decode cX10_laysStates 145 = .ok (.iload 4, 2) := by decide +kernel
theorem dX10_laysStates_147 : decode cX10_laysStates 147 = .ok (.aload_n 0, 1) := by decide +kernel
theorem dX10_laysStates_148 : decode cX10_laysStates 148 = .ok (.getfield 105, 3) := by decide +kernel
theorem dX10_laysStates_151 : decode cX10_laysStates 151 = .ok (.iload 7, 2) := by decide +kernel
theorem dX10_laysStates_153 : decode cX10_laysStates 153 = .ok (.iaload, 1) := by decide +kernel
theorem dX10_laysStates_154 : decode cX10_laysStates 154 = .ok (.aload_n 0, 1) := by decide +kernel
theorem dX10_laysStates_155 : decode cX10_laysStates 155 = .ok (.getfield 105, 3) := by decide +kernel
theorem dX10_laysStates_158 : decode cX10_laysStates 158 = .ok (.iload 8, 2) := by decide +kernel
theorem dX10_laysStates_160 : decode cX10_laysStates 160 = .ok (.iaload, 1) := by decide +kernel
theorem dX10_laysStates_161 : decode cX10_laysStates 161 = .ok (.iadd, 1) := by decide +kernel
theorem dX10_laysStates_162 : decode cX10_laysStates 162 = .ok (.iastore, 1) := by decide +kernel
theorem dX10_laysStates_163 : decode cX10_laysStates 163 = .ok (.aload_n 0, 1) := by decide +kernel
theorem dX10_laysStates_164 : decode cX10_laysStates 164 = .ok (.getfield 108, 3) := by decide +kernel
theorem dX10_laysStates_167 : decode cX10_laysStates 167 = .ok (.iload 4, 2) := by decide +kernel
theorem dX10_laysStates_169 : decode cX10_laysStates 169 = .ok (.aload_n 0, 1) := by decide +kernel
theorem dX10_laysStates_170 : decode cX10_laysStates 170 = .ok (.getfield 102, 3) := by decide +kernel
theorem dX10_laysStates_173 : decode cX10_laysStates 173 = .ok (.iload 4, 2) := by decide +kernel
theorem dX10_laysStates_175 : decode cX10_laysStates 175 = .ok (.iaload, 1) := by decide +kernel
theorem dX10_laysStates_176 : decode cX10_laysStates 176 = .ok (.ifCond .eq 13, 3) := by decide +kernel
theorem dX10_laysStates_179 : decode cX10_laysStates 179 = .ok (.aload_n 0, 1) := by decide +kernel
theorem dX10_laysStates_180 : decode cX10_laysStates 180 = .ok (.getfield 105, 3) := by decide +kernel
theorem dX10_laysStates_183 : decode cX10_laysStates 183 = .ok (.iload 4, 2) := by decide +kernel
theorem dX10_laysStates_185 : decode cX10_laysStates 185 = .ok (.iaload, 1) := by decide +kernel
theorem dX10_laysStates_186 : decode cX10_laysStates 186 = .ok (.ifCond .ne 7, 3) := by decide +kernel
theorem dX10_laysStates_189 : decode cX10_laysStates 189 = .ok (.iconst 0, 1) := by decide +kernel
theorem dX10_laysStates_190 : decode cX10_laysStates 190 = .ok (.goto 6, 3) := by decide +kernel
theorem dX10_laysStates_193 : decode cX10_laysStates 193 = .ok (.ldc_w 354, 3) := by decide +kernel
theorem dX10_laysStates_196 : decode cX10_laysStates 196 = .ok (.iastore, 1) := by decide +kernel
theorem dX10_laysStates_197 : decode cX10_laysStates 197 = .ok (.iconst 0, 1) := by decide +kernel
theorem dX10_laysStates_198 : decode cX10_laysStates 198 = .ok (.istore 6, 2) := by decide +kernel
theorem dX10_laysStates_200 : decode cX10_laysStates 200 = .ok (.iload 6, 2) := by decide +kernel
theorem dX10_laysStates_202 : decode cX10_laysStates 202 = .ok (.aload_n 0, 1) := by decide +kernel
theorem dX10_laysStates_203 : decode cX10_laysStates 203 = .ok (.getfield 13, 3) := by decide +kernel
theorem dX10_laysStates_206 : decode cX10_laysStates 206 = .ok (.if_icmp .ge 72, 3) := by decide +kernel
theorem dX10_laysStates_209 : decode cX10_laysStates 209 = .ok (.aload_n 0, 1) := by decide +kernel
theorem dX10_laysStates_210 : decode cX10_laysStates 210 = .ok (.getfield 108, 3) := by decide +kernel
theorem dX10_laysStates_213 : decode cX10_laysStates 213 = .ok (.iload 4, 2) := by decide +kernel
theorem dX10_laysStates_215 : decode cX10_laysStates 215 = .ok (.iaload, 1) := by decide +kernel
theorem dX10_laysStates_216 : decode cX10_laysStates 216 = .ok (.ifCond .le 62, 3) := by decide +kernel
theorem dX10_laysStates_219 : decode cX10_laysStates 219 = .ok (.iload_n 2, 1) := by decide +kernel
theorem dX10_laysStates_220 : decode cX10_laysStates 220 = .ok (.iload 6, 2) := by decide +kernel
theorem dX10_laysStates_222 : decode cX10_laysStates 222 = .ok (.invokestatic 297, 3) := by decide +kernel
theorem dX10_laysStates_225 : decode cX10_laysStates 225 = .ok (.ifCond .eq 47, 3) := by decide +kernel
theorem dX10_laysStates_228 : decode cX10_laysStates 228 = .ok (.iload 4, 2) := by decide +kernel
theorem dX10_laysStates_230 : decode cX10_laysStates 230 = .ok (.iload 6, 2) := by decide +kernel
theorem dX10_laysStates_232 : decode cX10_laysStates 232 = .ok (.invokestatic 342, 3) := by decide +kernel
theorem dX10_laysStates_235 : decode cX10_laysStates 235 = .ok (.iconst 2, 1) := by decide +kernel
theorem dX10_laysStates_236 : decode cX10_laysStates 236 = .ok (.if_icmp .ne 36, 3) := by decide +kernel
theorem dX10_laysStates_239 : decode cX10_laysStates 239 = .ok (.aload_n 0, 1) := by decide +kernel
theorem dX10_laysStates_240 : decode cX10_laysStates 240 = .ok (.iload 4, 2) := by decide +kernel
theorem dX10_laysStates_242 : decode cX10_laysStates 242 = .ok (.iload 6, 2) := by decide +kernel
theorem dX10_laysStates_244 : decode cX10_laysStates 244 = .ok (.invokevirtual 355, 3) := by decide +kernel
theorem dX10_laysStates_247 : decode cX10_laysStates 247 = .ok (.aload_n 0, 1) := by decide +kernel
theorem dX10_laysStates_248 : decode cX10_laysStates 248 = .ok (.getfield 108, 3) := by decide +kernel
theorem dX10_laysStates_251 : decode cX10_laysStates 251 = .ok (.iload 4, 2) := by decide +kernel
theorem dX10_laysStates_253 : decode cX10_laysStates 253 = .ok (.iaload, 1) := by decide +kernel
theorem dX10_laysStates_254 : decode cX10_laysStates 254 = .ok (.if_icmp .ge 18, 3) := by decide +kernel
theorem dX10_laysStates_257 : decode cX10_laysStates 257 = .ok (.aload_n 0, 1) := by decide +kernel
theorem dX10_laysStates_258 : decode cX10_laysStates 258 = .ok (.getfield 108, 3) := by decide +kernel
theorem dX10_laysStates_261 : decode cX10_laysStates 261 = .ok (.iload 4, 2) := by decide +kernel
theorem dX10_laysStates_263 : decode cX10_laysStates 263 = .ok (.aload_n 0, 1) := by decide +kernel
theorem dX10_laysStates_264 : decode cX10_laysStates 264 = .ok (.iload 4, 2) := by decide +kernel
theorem dX10_laysStates_266 : decode cX10_laysStates 266 = .ok (.iload 6, 2) := by decide +kernel
theorem dX10_laysStates_268 : decode cX10_laysStates 268 = .ok (.invokevirtual 355, 3) := by decide +kernel
theorem dX10_laysStates_271 : decode cX10_laysStates 271 = .ok (.iastore, 1) := by decide +kernel
theorem dX10_laysStates_272 : decode cX10_laysStates 272 = .ok (.iinc 6 1, 3) := by decide +kernel
theorem dX10_laysStates_275 : decode cX10_laysStates 275 = .ok (.goto (-75), 3) := by decide +kernel
theorem dX10_laysStates_278 : decode cX10_laysStates 278 = .ok (.iinc 4 1, 3) := by decide +kernel
theorem dX10_laysStates_281 : decode cX10_laysStates 281 = .ok (.goto (-273), 3) := by decide +kernel
theorem dX10_laysStates_284 : decode cX10_laysStates 284 = .ok (.return_, 1) := by decide +kernel
theorem dX10_asksBy_0 : decode cX10_asksBy 0 = .ok (.aload_n 0, 1) := by decide +kernel
theorem dX10_asksBy_1 : decode cX10_asksBy 1 = .ok (.getfield 108, 3) := by decide +kernel
theorem dX10_asksBy_4 : decode cX10_asksBy 4 = .ok (.iload_n 1, 1) := by decide +kernel
theorem dX10_asksBy_5 : decode cX10_asksBy 5 = .ok (.iload_n 2, 1) := by decide +kernel
theorem dX10_asksBy_6 : decode cX10_asksBy 6 = .ok (.invokestatic 339, 3) := by decide +kernel
theorem dX10_asksBy_9 : decode cX10_asksBy 9 = .ok (.isub, 1) := by decide +kernel
theorem dX10_asksBy_10 : decode cX10_asksBy 10 = .ok (.iaload, 1) := by decide +kernel
theorem dX10_asksBy_11 : decode cX10_asksBy 11 = .ok (.istore_n 3, 1) := by decide +kernel
theorem dX10_asksBy_12 : decode cX10_asksBy 12 = .ok (.aload_n 0, 1) := by decide +kernel
theorem dX10_asksBy_13 : decode cX10_asksBy 13 = .ok (.getfield 108, 3) := by decide +kernel
theorem dX10_asksBy_16 : decode cX10_asksBy 16 = .ok (.iload_n 1, 1) := by decide +kernel
