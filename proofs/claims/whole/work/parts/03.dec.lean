theorem dX0_init_0 : decode cX0_init 0 = .ok (.aload_n 0, 1) := by decide +kernel
theorem dX0_init_1 : decode cX0_init 1 = .ok (.invokespecial 3, 3) := by decide +kernel
theorem dX0_init_4 : decode cX0_init 4 = .ok (.aload_n 0, 1) := by decide +kernel
theorem dX0_init_5 : decode cX0_init 5 = .ok (.bipush 120, 2) := by decide +kernel
theorem dX0_init_7 : decode cX0_init 7 = .ok (.newarray .int, 2) := by decide +kernel
theorem dX0_init_9 : decode cX0_init 9 = .ok (.putfield 11, 3) := by decide +kernel
theorem dX0_init_12 : decode cX0_init 12 = .ok (.aload_n 0, 1) := by decide +kernel
theorem dX0_init_13 : decode cX0_init 13 = .ok (.bipush 40, 2) := by decide +kernel
theorem dX0_init_15 : decode cX0_init 15 = .ok (.newarray .int, 2) := by decide +kernel
theorem dX0_init_17 : decode cX0_init 17 = .ok (.putfield 15, 3) := by decide +kernel
theorem dX0_init_20 : decode cX0_init 20 = .ok (.aload_n 0, 1) := by decide +kernel
theorem dX0_init_21 : decode cX0_init 21 = .ok (.sipush 640, 3) := by decide +kernel
theorem dX0_init_24 : decode cX0_init 24 = .ok (.newarray .long, 2) := by decide +kernel
theorem dX0_init_26 : decode cX0_init 26 = .ok (.putfield 20, 3) := by decide +kernel
theorem dX0_init_29 : decode cX0_init 29 = .ok (.aload_n 0, 1) := by decide +kernel
theorem dX0_init_30 : decode cX0_init 30 = .ok (.iconst 0, 1) := by decide +kernel
theorem dX0_init_31 : decode cX0_init 31 = .ok (.putfield 24, 3) := by decide +kernel
theorem dX0_init_34 : decode cX0_init 34 = .ok (.return_, 1) := by decide +kernel
theorem dX0_size_0 : decode cX0_size 0 = .ok (.aload_n 0, 1) := by decide +kernel
theorem dX0_size_1 : decode cX0_size 1 = .ok (.getfield 24, 3) := by decide +kernel
theorem dX0_size_4 : decode cX0_size 4 = .ok (.ireturn, 1) := by decide +kernel
theorem dX0_isFull_0 : decode cX0_isFull 0 = .ok (.aload_n 0, 1) := by decide +kernel
theorem dX0_isFull_1 : decode cX0_isFull 1 = .ok (.getfield 24, 3) := by decide +kernel
theorem dX0_isFull_4 : decode cX0_isFull 4 = .ok (.bipush 40, 2) := by decide +kernel
theorem dX0_isFull_6 : decode cX0_isFull 6 = .ok (.if_icmp .lt 7, 3) := by decide +kernel
theorem dX0_isFull_9 : decode cX0_isFull 9 = .ok (.iconst 1, 1) := by decide +kernel
theorem dX0_isFull_10 : decode cX0_isFull 10 = .ok (.goto 4, 3) := by decide +kernel
theorem dX0_isFull_13 : decode cX0_isFull 13 = .ok (.iconst 0, 1) := by decide +kernel
theorem dX0_isFull_14 : decode cX0_isFull 14 = .ok (.ireturn, 1) := by decide +kernel
theorem dX0_clear_0 : decode cX0_clear 0 = .ok (.aload_n 0, 1) := by decide +kernel
theorem dX0_clear_1 : decode cX0_clear 1 = .ok (.iconst 0, 1) := by decide +kernel
theorem dX0_clear_2 : decode cX0_clear 2 = .ok (.putfield 24, 3) := by decide +kernel
theorem dX0_clear_5 : decode cX0_clear 5 = .ok (.return_, 1) := by decide +kernel
theorem dX0_numberAt_0 : decode cX0_numberAt 0 = .ok (.iload_n 1, 1) := by decide +kernel
theorem dX0_numberAt_1 : decode cX0_numberAt 1 = .ok (.ifCond .lt 22, 3) := by decide +kernel
theorem dX0_numberAt_4 : decode cX0_numberAt 4 = .ok (.iload_n 1, 1) := by decide +kernel
theorem dX0_numberAt_5 : decode cX0_numberAt 5 = .ok (.iconst 3, 1) := by decide +kernel
theorem dX0_numberAt_6 : decode cX0_numberAt 6 = .ok (.aload_n 0, 1) := by decide +kernel
theorem dX0_numberAt_7 : decode cX0_numberAt 7 = .ok (.getfield 24, 3) := by decide +kernel
theorem dX0_numberAt_10 : decode cX0_numberAt 10 = .ok (.imul, 1) := by decide +kernel
theorem dX0_numberAt_11 : decode cX0_numberAt 11 = .ok (.if_icmp .ge 12, 3) := by decide +kernel
theorem dX0_numberAt_14 : decode cX0_numberAt 14 = .ok (.aload_n 0, 1) := by decide +kernel
theorem dX0_numberAt_15 : decode cX0_numberAt 15 = .ok (.getfield 11, 3) := by decide +kernel
theorem dX0_numberAt_18 : decode cX0_numberAt 18 = .ok (.iload_n 1, 1) := by decide +kernel
theorem dX0_numberAt_19 : decode cX0_numberAt 19 = .ok (.iaload, 1) := by decide +kernel
theorem dX0_numberAt_20 : decode cX0_numberAt 20 = .ok (.goto 4, 3) := by decide +kernel
theorem dX0_numberAt_23 : decode cX0_numberAt 23 = .ok (.iconst (-1), 1) := by decide +kernel
theorem dX0_numberAt_24 : decode cX0_numberAt 24 = .ok (.ireturn, 1) := by decide +kernel
theorem dX0_personOf_0 : decode cX0_personOf 0 = .ok (.aload_n 0, 1) := by decide +kernel
theorem dX0_personOf_1 : decode cX0_personOf 1 = .ok (.iconst 3, 1) := by decide +kernel
theorem dX0_personOf_2 : decode cX0_personOf 2 = .ok (.iload_n 1, 1) := by decide +kernel
theorem dX0_personOf_3 : decode cX0_personOf 3 = .ok (.imul, 1) := by decide +kernel
theorem dX0_personOf_4 : decode cX0_personOf 4 = .ok (.invokevirtual 28, 3) := by decide +kernel
theorem dX0_personOf_7 : decode cX0_personOf 7 = .ok (.ireturn, 1) := by decide +kernel
theorem dX0_costOf_0 : decode cX0_costOf 0 = .ok (.iload_n 1, 1) := by decide +kernel
theorem dX0_costOf_1 : decode cX0_costOf 1 = .ok (.ifCond .lt 20, 3) := by decide +kernel
theorem dX0_costOf_4 : decode cX0_costOf 4 = .ok (.iload_n 1, 1) := by decide +kernel
theorem dX0_costOf_5 : decode cX0_costOf 5 = .ok (.aload_n 0, 1) := by decide +kernel
theorem dX0_costOf_6 : decode cX0_costOf 6 = .ok (.getfield 24, 3) := by decide +kernel
theorem dX0_costOf_9 : decode cX0_costOf 9 = .ok (.if_icmp .ge 12, 3) := by decide +kernel
theorem dX0_costOf_12 : decode cX0_costOf 12 = .ok (.aload_n 0, 1) := by decide +kernel
theorem dX0_costOf_13 : decode cX0_costOf 13 = .ok (.getfield 15, 3) := by decide +kernel
theorem dX0_costOf_16 : decode cX0_costOf 16 = .ok (.iload_n 1, 1) := by decide +kernel
theorem dX0_costOf_17 : decode cX0_costOf 17 = .ok (.iaload, 1) := by decide +kernel
theorem dX0_costOf_18 : decode cX0_costOf 18 = .ok (.goto 4, 3) := by decide +kernel
theorem dX0_costOf_21 : decode cX0_costOf 21 = .ok (.iconst 0, 1) := by decide +kernel
theorem dX0_costOf_22 : decode cX0_costOf 22 = .ok (.ireturn, 1) := by decide +kernel
theorem dX0_write_0 : decode cX0_write 0 = .ok (.aload_n 0, 1) := by decide +kernel
theorem dX0_write_1 : decode cX0_write 1 = .ok (.invokevirtual 32, 3) := by decide +kernel
theorem dX0_write_4 : decode cX0_write 4 = .ok (.ifCond .eq 4, 3) := by decide +kernel
theorem dX0_write_7 : decode cX0_write 7 = .ok (.return_, 1) := by decide +kernel
theorem dX0_write_8 : decode cX0_write 8 = .ok (.aload_n 0, 1) := by decide +kernel
theorem dX0_write_9 : decode cX0_write 9 = .ok (.getfield 11, 3) := by decide +kernel
theorem dX0_write_12 : decode cX0_write 12 = .ok (.iconst 3, 1) := by decide +kernel
theorem dX0_write_13 : decode cX0_write 13 = .ok (.aload_n 0, 1) := by decide +kernel
theorem dX0_write_14 : decode cX0_write 14 = .ok (.getfield 24, 3) := by decide +kernel
theorem dX0_write_17 : decode cX0_write 17 = .ok (.imul, 1) := by decide +kernel
theorem dX0_write_18 : decode cX0_write 18 = .ok (.iload_n 1, 1) := by decide +kernel
theorem dX0_write_19 : decode cX0_write 19 = .ok (.iastore, 1) := by decide +kernel
theorem dX0_write_20 : decode cX0_write 20 = .ok (.aload_n 0, 1) := by decide +kernel
theorem dX0_write_21 : decode cX0_write 21 = .ok (.getfield 11, 3) := by decide +kernel
theorem dX0_write_24 : decode cX0_write 24 = .ok (.iconst 3, 1) := by decide +kernel
theorem dX0_write_25 : decode cX0_write 25 = .ok (.aload_n 0, 1) := by decide +kernel
theorem dX0_write_26 : decode cX0_write 26 = .ok (.getfield 24, 3) := by decide +kernel
theorem dX0_write_29 : decode cX0_write 29 = .ok (.imul, 1) := by decide +kernel
theorem dX0_write_30 : decode cX0_write 30 = .ok (.iconst 1, 1) := by decide +kernel
theorem dX0_write_31 : decode cX0_write 31 = .ok (.iadd, 1) := by decide +kernel
theorem dX0_write_32 : decode cX0_write 32 = .ok (.iload_n 2, 1) := by decide +kernel
theorem dX0_write_33 : decode cX0_write 33 = .ok (.iastore, 1) := by decide +kernel
theorem dX0_write_34 : decode cX0_write 34 = .ok (.aload_n 0, 1) := by decide +kernel
theorem dX0_write_35 : decode cX0_write 35 = .ok (.getfield 11, 3) := by decide +kernel
theorem dX0_write_38 : decode cX0_write 38 = .ok (.iconst 3, 1) := by decide +kernel
theorem dX0_write_39 : decode cX0_write 39 = .ok (.aload_n 0, 1) := by decide +kernel
theorem dX0_write_40 : decode cX0_write 40 = .ok (.getfield 24, 3) := by decide +kernel
theorem dX0_write_43 : decode cX0_write 43 = .ok (.imul, 1) := by decide +kernel
theorem dX0_write_44 : decode cX0_write 44 = .ok (.iconst 2, 1) := by decide +kernel
theorem dX0_write_45 : decode cX0_write 45 = .ok (.iadd, 1) := by decide +kernel
theorem dX0_write_46 : decode cX0_write 46 = .ok (.iload_n 3, 1) := by decide +kernel
theorem dX0_write_47 : decode cX0_write 47 = .ok (.iastore, 1) := by decide +kernel
theorem dX0_write_48 : decode cX0_write 48 = .ok (.aload_n 0, 1) := by decide +kernel
theorem dX0_write_49 : decode cX0_write 49 = .ok (.getfield 15, 3) := by decide +kernel
theorem dX0_write_52 : decode cX0_write 52 = .ok (.aload_n 0, 1) := by decide +kernel
theorem dX0_write_53 : decode cX0_write 53 = .ok (.getfield 24, 3) := by decide +kernel
theorem dX0_write_56 : decode cX0_write 56 = .ok (.iload 4, 2) := by decide +kernel
theorem dX0_write_58 : decode cX0_write 58 = .ok (.iastore, 1) := by decide +kernel
theorem dX0_write_59 : decode cX0_write 59 = .ok (.iconst 0, 1) := by decide +kernel
theorem dX0_write_60 : decode cX0_write 60 = .ok (.istore 6, 2) := by decide +kernel
theorem dX0_write_62 : decode cX0_write 62 = .ok (.iload 6, 2) := by decide +kernel
theorem dX0_write_64 : decode cX0_write 64 = .ok (.bipush 16, 2) := by decide +kernel
theorem dX0_write_66 : decode cX0_write 66 = .ok (.if_icmp .ge 31, 3) := by decide +kernel
theorem dX0_write_69 : decode cX0_write 69 = .ok (.aload_n 0, 1) := by decide +kernel
theorem dX0_write_70 : decode cX0_write 70 = .ok (.getfield 20, 3) := by decide +kernel
theorem dX0_write_73 : decode cX0_write 73 = .ok (.aload_n 0, 1) := by decide +kernel
theorem dX0_write_74 : decode cX0_write 74 = .ok (.getfield 24, 3) := by decide +kernel
theorem dX0_write_77 : decode cX0_write 77 = .ok (.bipush 16, 2) := by decide +kernel
theorem dX0_write_79 : decode cX0_write 79 = .ok (.imul, 1) := by decide +kernel
theorem dX0_write_80 : decode cX0_write 80 = .ok (.iload 6, 2) := by decide +kernel
theorem dX0_write_82 : decode cX0_write 82 = .ok (.iadd, 1) := by decide +kernel
theorem dX0_write_83 : decode cX0_write 83 = .ok (.aload 5, 2) := by decide +kernel
theorem dX0_write_85 : decode cX0_write 85 = .ok (.iload 6, 2) := by decide +kernel
theorem dX0_write_87 : decode cX0_write 87 = .ok (.invokevirtual 36, 3) := by decide +kernel
theorem dX0_write_90 : decode cX0_write 90 = .ok (.lastore, 1) := by decide +kernel
theorem dX0_write_91 : decode cX0_write 91 = .ok (.iinc 6 1, 3) := by decide +kernel
theorem dX0_write_94 : decode cX0_write 94 = .ok (.goto (-32), 3) := by decide +kernel
theorem dX0_write_97 : decode cX0_write 97 = .ok (.aload_n 0, 1) := by decide +kernel
theorem dX0_write_98 : decode cX0_write 98 = .ok (.dup, 1) := by decide +kernel
theorem dX0_write_99 : decode cX0_write 99 = .ok (.getfield 24, 3) := by decide +kernel
theorem dX0_write_102 : decode cX0_write 102 = .ok (.iconst 1, 1) := by decide +kernel
theorem dX0_write_103 : decode cX0_write 103 = .ok (.iadd, 1) := by decide +kernel
theorem dX0_write_104 : decode cX0_write 104 = .ok (.putfield 24, 3) := by decide +kernel
theorem dX0_write_107 : decode cX0_write 107 = .ok (.return_, 1) := by decide +kernel
theorem dX0_takeLast_0 : decode cX0_takeLast 0 = .ok (.aload_n 0, 1) := by decide +kernel
theorem dX0_takeLast_1 : decode cX0_takeLast 1 = .ok (.getfield 24, 3) := by decide +kernel
theorem dX0_takeLast_4 : decode cX0_takeLast 4 = .ok (.iconst 1, 1) := by decide +kernel
theorem dX0_takeLast_5 : decode cX0_takeLast 5 = .ok (.if_icmp .ge 4, 3) := by decide +kernel
theorem dX0_takeLast_8 : decode cX0_takeLast 8 = .ok (.return_, 1) := by decide +kernel
theorem dX0_takeLast_9 : decode cX0_takeLast 9 = .ok (.aload_n 0, 1) := by decide +kernel
theorem dX0_takeLast_10 : decode cX0_takeLast 10 = .ok (.dup, 1) := by decide +kernel
theorem dX0_takeLast_11 : decode cX0_takeLast 11 = .ok (.getfield 24, 3) := by decide +kernel
theorem dX0_takeLast_14 : decode cX0_takeLast 14 = .ok (.iconst 1, 1) := by decide +kernel
theorem dX0_takeLast_15 : decode cX0_takeLast 15 = .ok (.isub, 1) := by decide +kernel
theorem dX0_takeLast_16 : decode cX0_takeLast 16 = .ok (.putfield 24, 3) := by decide +kernel
theorem dX0_takeLast_19 : decode cX0_takeLast 19 = .ok (.iconst 0, 1) := by decide +kernel
theorem dX0_takeLast_20 : decode cX0_takeLast 20 = .ok (.istore_n 2, 1) := by decide +kernel
theorem dX0_takeLast_21 : decode cX0_takeLast 21 = .ok (.iload_n 2, 1) := by decide +kernel
theorem dX0_takeLast_22 : decode cX0_takeLast 22 = .ok (.bipush 16, 2) := by decide +kernel
theorem dX0_takeLast_24 : decode cX0_takeLast 24 = .ok (.if_icmp .ge 28, 3) := by decide +kernel
theorem dX0_takeLast_27 : decode cX0_takeLast 27 = .ok (.aload_n 1, 1) := by decide +kernel
theorem dX0_takeLast_28 : decode cX0_takeLast 28 = .ok (.iload_n 2, 1) := by decide +kernel
theorem dX0_takeLast_29 : decode cX0_takeLast 29 = .ok (.aload_n 0, 1) := by decide +kernel
theorem dX0_takeLast_30 : decode cX0_takeLast 30 = .ok (.getfield 20, 3) := by decide +kernel
theorem dX0_takeLast_33 : decode cX0_takeLast 33 = .ok (.aload_n 0, 1) := by decide +kernel
theorem dX0_takeLast_34 : decode cX0_takeLast 34 = .ok (.getfield 24, 3) := by decide +kernel
theorem dX0_takeLast_37 : decode cX0_takeLast 37 = .ok (.bipush 16, 2) := by decide +kernel
theorem dX0_takeLast_39 : decode cX0_takeLast 39 = .ok (.imul, 1) := by decide +kernel
theorem dX0_takeLast_40 : decode cX0_takeLast 40 = .ok (.iload_n 2, 1) := by decide +kernel
theorem dX0_takeLast_41 : decode cX0_takeLast 41 = .ok (.iadd, 1) := by decide +kernel
theorem dX0_takeLast_42 : decode cX0_takeLast 42 = .ok (.laload, 1) := by decide +kernel
theorem dX0_takeLast_43 : decode cX0_takeLast 43 = .ok (.invokevirtual 40, 3) := by decide +kernel
theorem dX0_takeLast_46 : decode cX0_takeLast 46 = .ok (.iinc 2 1, 3) := by decide +kernel
theorem dX0_takeLast_49 : decode cX0_takeLast 49 = .ok (.goto (-28), 3) := by decide +kernel
theorem dX0_takeLast_52 : decode cX0_takeLast 52 = .ok (.return_, 1) := by decide +kernel
theorem dX1_init_0 : decode cX1_init 0 = .ok (.aload_n 0, 1) := by decide +kernel
theorem dX1_init_1 : decode cX1_init 1 = .ok (.invokespecial 3, 3) := by decide +kernel
theorem dX1_init_4 : decode cX1_init 4 = .ok (.aload_n 0, 1) := by decide +kernel
theorem dX1_init_5 : decode cX1_init 5 = .ok (.sipush 200, 3) := by decide +kernel
theorem dX1_init_8 : decode cX1_init 8 = .ok (.newarray .int, 2) := by decide +kernel
theorem dX1_init_10 : decode cX1_init 10 = .ok (.putfield 11, 3) := by decide +kernel
theorem dX1_init_13 : decode cX1_init 13 = .ok (.aload_n 0, 1) := by decide +kernel
theorem dX1_init_14 : decode cX1_init 14 = .ok (.bipush 14, 2) := by decide +kernel
theorem dX1_init_16 : decode cX1_init 16 = .ok (.newarray .int, 2) := by decide +kernel
theorem dX1_init_18 : decode cX1_init 18 = .ok (.putfield 15, 3) := by decide +kernel
theorem dX1_init_21 : decode cX1_init 21 = .ok (.aload_n 0, 1) := by decide +kernel
theorem dX1_init_22 : decode cX1_init 22 = .ok (.bipush 14, 2) := by decide +kernel
theorem dX1_init_24 : decode cX1_init 24 = .ok (.newarray .int, 2) := by decide +kernel
theorem dX1_init_26 : decode cX1_init 26 = .ok (.putfield 18, 3) := by decide +kernel
theorem dX1_init_29 : decode cX1_init 29 = .ok (.aload_n 0, 1) := by decide +kernel
theorem dX1_init_30 : decode cX1_init 30 = .ok (.bipush 14, 2) := by decide +kernel
theorem dX1_init_32 : decode cX1_init 32 = .ok (.newarray .int, 2) := by decide +kernel
theorem dX1_init_34 : decode cX1_init 34 = .ok (.putfield 21, 3) := by decide +kernel
theorem dX1_init_37 : decode cX1_init 37 = .ok (.aload_n 0, 1) := by decide +kernel
theorem dX1_init_38 : decode cX1_init 38 = .ok (.bipush 14, 2) := by decide +kernel
theorem dX1_init_40 : decode cX1_init 40 = .ok (.newarray .int, 2) := by decide +kernel
theorem dX1_init_42 : decode cX1_init 42 = .ok (.putfield 24, 3) := by decide +kernel
theorem dX1_init_45 : decode cX1_init 45 = .ok (.aload_n 0, 1) := by decide +kernel
theorem dX1_init_46 : decode cX1_init 46 = .ok (.iconst 0, 1) := by decide +kernel
theorem dX1_init_47 : decode cX1_init 47 = .ok (.putfield 27, 3) := by decide +kernel
theorem dX1_init_50 : decode cX1_init 50 = .ok (.aload_n 0, 1) := by decide +kernel
theorem dX1_init_51 : decode cX1_init 51 = .ok (.iconst 0, 1) := by decide +kernel
theorem dX1_init_52 : decode cX1_init 52 = .ok (.putfield 31, 3) := by decide +kernel
theorem dX1_init_55 : decode cX1_init 55 = .ok (.return_, 1) := by decide +kernel
theorem dX1_clear_0 : decode cX1_clear 0 = .ok (.aload_n 0, 1) := by decide +kernel
theorem dX1_clear_1 : decode cX1_clear 1 = .ok (.iconst 0, 1) := by decide +kernel
theorem dX1_clear_2 : decode cX1_clear 2 = .ok (.putfield 27, 3) := by decide +kernel
theorem dX1_clear_5 : decode cX1_clear 5 = .ok (.aload_n 0, 1) := by decide +kernel
theorem dX1_clear_6 : decode cX1_clear 6 = .ok (.iconst 0, 1) := by decide +kernel
theorem dX1_clear_7 : decode cX1_clear 7 = .ok (.putfield 31, 3) := by decide +kernel
theorem dX1_clear_10 : decode cX1_clear 10 = .ok (.return_, 1) := by decide +kernel
theorem dX1_copy_0 : decode cX1_copy 0 = .ok (.aload_n 0, 1) := by decide +kernel
theorem dX1_copy_1 : decode cX1_copy 1 = .ok (.aload_n 1, 1) := by decide +kernel
theorem dX1_copy_2 : decode cX1_copy 2 = .ok (.getfield 27, 3) := by decide +kernel
theorem dX1_copy_5 : decode cX1_copy 5 = .ok (.putfield 27, 3) := by decide +kernel
theorem dX1_copy_8 : decode cX1_copy 8 = .ok (.aload_n 0, 1) := by decide +kernel
theorem dX1_copy_9 : decode cX1_copy 9 = .ok (.aload_n 1, 1) := by decide +kernel
theorem dX1_copy_10 : decode cX1_copy 10 = .ok (.getfield 31, 3) := by decide +kernel
theorem dX1_copy_13 : decode cX1_copy 13 = .ok (.putfield 31, 3) := by decide +kernel
theorem dX1_copy_16 : decode cX1_copy 16 = .ok (.iconst 0, 1) := by decide +kernel
theorem dX1_copy_17 : decode cX1_copy 17 = .ok (.istore_n 2, 1) := by decide +kernel
theorem dX1_copy_18 : decode cX1_copy 18 = .ok (.iload_n 2, 1) := by decide +kernel
theorem dX1_copy_19 : decode cX1_copy 19 = .ok (.sipush 200, 3) := by decide +kernel
theorem dX1_copy_22 : decode cX1_copy 22 = .ok (.if_icmp .ge 21, 3) := by decide +kernel
theorem dX1_copy_25 : decode cX1_copy 25 = .ok (.aload_n 0, 1) := by decide +kernel
theorem dX1_copy_26 : decode cX1_copy 26 = .ok (.getfield 11, 3) := by decide +kernel
theorem dX1_copy_29 : decode cX1_copy 29 = .ok (.iload_n 2, 1) := by decide +kernel
theorem dX1_copy_30 : decode cX1_copy 30 = .ok (.aload_n 1, 1) := by decide +kernel
theorem dX1_copy_31 : decode cX1_copy 31 = .ok (.getfield 11, 3) := by decide +kernel
theorem dX1_copy_34 : decode cX1_copy 34 = .ok (.iload_n 2, 1) := by decide +kernel
theorem dX1_copy_35 : decode cX1_copy 35 = .ok (.iaload, 1) := by decide +kernel
theorem dX1_copy_36 : decode cX1_copy 36 = .ok (.iastore, 1) := by decide +kernel
theorem dX1_copy_37 : decode cX1_copy 37 = .ok (.iinc 2 1, 3) := by decide +kernel
theorem dX1_copy_40 : decode cX1_copy 40 = .ok (.goto (-22), 3) := by decide +kernel
theorem dX1_copy_43 : decode cX1_copy 43 = .ok (.iconst 0, 1) := by decide +kernel
theorem dX1_copy_44 : decode cX1_copy 44 = .ok (.istore_n 2, 1) := by decide +kernel
theorem dX1_copy_45 : decode cX1_copy 45 = .ok (.iload_n 2, 1) := by decide +kernel
theorem dX1_copy_46 : decode cX1_copy 46 = .ok (.bipush 14, 2) := by decide +kernel
theorem dX1_copy_48 : decode cX1_copy 48 = .ok (.if_icmp .ge 57, 3) := by decide +kernel
theorem dX1_copy_51 : decode cX1_copy 51 = .ok (.aload_n 0, 1) := by decide +kernel
theorem dX1_copy_52 : decode cX1_copy 52 = .ok (.getfield 15, 3) := by decide +kernel
theorem dX1_copy_55 : decode cX1_copy 55 = .ok (.iload_n 2, 1) := by decide +kernel
theorem dX1_copy_56 : decode cX1_copy 56 = .ok (.aload_n 1, 1) := by decide +kernel
theorem dX1_copy_57 : decode cX1_copy 57 = .ok (.getfield 15, 3) := by decide +kernel
theorem dX1_copy_60 : decode cX1_copy 60 = .ok (.iload_n 2, 1) := by decide +kernel
theorem dX1_copy_61 : decode cX1_copy 61 = .ok (.iaload, 1) := by decide +kernel
theorem dX1_copy_62 : decode cX1_copy 62 = .ok (.iastore, 1) := by decide +kernel
theorem dX1_copy_63 : decode cX1_copy 63 = .ok (.aload_n 0, 1) := by decide +kernel
theorem dX1_copy_64 : decode cX1_copy 64 = .ok (.getfield 18, 3) := by decide +kernel
theorem dX1_copy_67 : decode cX1_copy 67 = .ok (.iload_n 2, 1) := by decide +kernel
theorem dX1_copy_68 : decode cX1_copy 68 = .ok (.aload_n 1, 1) := by decide +kernel
theorem dX1_copy_69 : decode cX1_copy 69 = .ok (.getfield 18, 3) := by decide +kernel
theorem dX1_copy_72 : decode cX1_copy 72 = .ok (.iload_n 2, 1) := by decide +kernel
theorem dX1_copy_73 : decode cX1_copy 73 = .ok (.iaload, 1) := by decide +kernel
theorem dX1_copy_74 : decode cX1_copy 74 = .ok (.iastore, 1) := by decide +kernel
theorem dX1_copy_75 : decode cX1_copy 75 = .ok (.aload_n 0, 1) := by decide +kernel
theorem dX1_copy_76 : decode cX1_copy 76 = .ok (.getfield 21, 3) := by decide +kernel
theorem dX1_copy_79 : decode cX1_copy 79 = .ok (.iload_n 2, 1) := by decide +kernel
theorem dX1_copy_80 : decode cX1_copy 80 = .ok (.aload_n 1, 1) := by decide +kernel
theorem dX1_copy_81 : decode cX1_copy 81 = .ok (.getfield 21, 3) := by decide +kernel
theorem dX1_copy_84 : decode cX1_copy 84 = .ok (.iload_n 2, 1) := by decide +kernel
theorem dX1_copy_85 : decode cX1_copy 85 = .ok (.iaload, 1) := by decide +kernel
theorem dX1_copy_86 : decode cX1_copy 86 = .ok (.iastore, 1) := by decide +kernel
theorem dX1_copy_87 : decode cX1_copy 87 = .ok (.aload_n 0, 1) := by decide +kernel
theorem dX1_copy_88 : decode cX1_copy 88 = .ok (.getfield 24, 3) := by decide +kernel
theorem dX1_copy_91 : decode cX1_copy 91 = .ok (.iload_n 2, 1) := by decide +kernel
theorem dX1_copy_92 : decode cX1_copy 92 = .ok (.aload_n 1, 1) := by decide +kernel
theorem dX1_copy_93 : decode cX1_copy 93 = .ok (.getfield 24, 3) := by decide +kernel
theorem dX1_copy_96 : decode cX1_copy 96 = .ok (.iload_n 2, 1) := by decide +kernel
theorem dX1_copy_97 : decode cX1_copy 97 = .ok (.iaload, 1) := by decide +kernel
theorem dX1_copy_98 : decode cX1_copy 98 = .ok (.iastore, 1) := by decide +kernel
theorem dX1_copy_99 : decode cX1_copy 99 = .ok (.iinc 2 1, 3) := by decide +kernel
theorem dX1_copy_102 : decode cX1_copy 102 = .ok (.goto (-57), 3) := by decide +kernel
theorem dX1_copy_105 : decode cX1_copy 105 = .ok (.return_, 1) := by decide +kernel
theorem dX1_clauses_0 : decode cX1_clauses 0 = .ok (.aload_n 0, 1) := by decide +kernel
theorem dX1_clauses_1 : decode cX1_clauses 1 = .ok (.getfield 31, 3) := by decide +kernel
theorem dX1_clauses_4 : decode cX1_clauses 4 = .ok (.ireturn, 1) := by decide +kernel
theorem dX1_isFull_0 : decode cX1_isFull 0 = .ok (.aload_n 0, 1) := by decide +kernel
theorem dX1_isFull_1 : decode cX1_isFull 1 = .ok (.getfield 31, 3) := by decide +kernel
theorem dX1_isFull_4 : decode cX1_isFull 4 = .ok (.bipush 14, 2) := by decide +kernel
theorem dX1_isFull_6 : decode cX1_isFull 6 = .ok (.if_icmp .lt 7, 3) := by decide +kernel
theorem dX1_isFull_9 : decode cX1_isFull 9 = .ok (.iconst 1, 1) := by decide +kernel
theorem dX1_isFull_10 : decode cX1_isFull 10 = .ok (.goto 4, 3) := by decide +kernel
theorem dX1_isFull_13 : decode cX1_isFull 13 = .ok (.iconst 0, 1) := by decide +kernel
theorem dX1_isFull_14 : decode cX1_isFull 14 = .ok (.ireturn, 1) := by decide +kernel
theorem dX1_begin_0 : decode cX1_begin 0 = .ok (.aload_n 0, 1) := by decide +kernel
theorem dX1_begin_1 : decode cX1_begin 1 = .ok (.invokevirtual 34, 3) := by decide +kernel
theorem dX1_begin_4 : decode cX1_begin 4 = .ok (.ifCond .ne 26, 3) := by decide +kernel
theorem dX1_begin_7 : decode cX1_begin 7 = .ok (.aload_n 0, 1) := by decide +kernel
theorem dX1_begin_8 : decode cX1_begin 8 = .ok (.getfield 15, 3) := by decide +kernel
theorem dX1_begin_11 : decode cX1_begin 11 = .ok (.aload_n 0, 1) := by decide +kernel
theorem dX1_begin_12 : decode cX1_begin 12 = .ok (.getfield 31, 3) := by decide +kernel
theorem dX1_begin_15 : decode cX1_begin 15 = .ok (.iload_n 1, 1) := by decide +kernel
theorem dX1_begin_16 : decode cX1_begin 16 = .ok (.iastore, 1) := by decide +kernel
theorem dX1_begin_17 : decode cX1_begin 17 = .ok (.aload_n 0, 1) := by decide +kernel
theorem dX1_begin_18 : decode cX1_begin 18 = .ok (.getfield 18, 3) := by decide +kernel
theorem dX1_begin_21 : decode cX1_begin 21 = .ok (.aload_n 0, 1) := by decide +kernel
theorem dX1_begin_22 : decode cX1_begin 22 = .ok (.getfield 31, 3) := by decide +kernel
theorem dX1_begin_25 : decode cX1_begin 25 = .ok (.aload_n 0, 1) := by decide +kernel
theorem dX1_begin_26 : decode cX1_begin 26 = .ok (.getfield 27, 3) := by decide +kernel
theorem dX1_begin_29 : decode cX1_begin 29 = .ok (.iastore, 1) := by decide +kernel
theorem dX1_begin_30 : decode cX1_begin 30 = .ok (.return_, 1) := by decide +kernel
theorem dX1_turnToCondition_0 : decode cX1_turnToCondition 0 = .ok (.aload_n 0, 1) := by decide +kernel
theorem dX1_turnToCondition_1 : decode cX1_turnToCondition 1 = .ok (.invokevirtual 34, 3) := by decide +kernel
theorem dX1_turnToCondition_4 : decode cX1_turnToCondition 4 = .ok (.ifCond .ne 16, 3) := by decide +kernel
theorem dX1_turnToCondition_7 : decode cX1_turnToCondition 7 = .ok (.aload_n 0, 1) := by decide +kernel
theorem dX1_turnToCondition_8 : decode cX1_turnToCondition 8 = .ok (.getfield 21, 3) := by decide +kernel
theorem dX1_turnToCondition_11 : decode cX1_turnToCondition 11 = .ok (.aload_n 0, 1) := by decide +kernel
theorem dX1_turnToCondition_12 : decode cX1_turnToCondition 12 = .ok (.getfield 31, 3) := by decide +kernel
theorem dX1_turnToCondition_15 : decode cX1_turnToCondition 15 = .ok (.aload_n 0, 1) := by decide +kernel
theorem dX1_turnToCondition_16 : decode cX1_turnToCondition 16 = .ok (.getfield 27, 3) := by decide +kernel
theorem dX1_turnToCondition_19 : decode cX1_turnToCondition 19 = .ok (.iastore, 1) := by decide +kernel
theorem dX1_turnToCondition_20 : decode cX1_turnToCondition 20 = .ok (.return_, 1) := by decide +kernel
theorem dX1_end_0 : decode cX1_end 0 = .ok (.aload_n 0, 1) := by decide +kernel
theorem dX1_end_1 : decode cX1_end 1 = .ok (.invokevirtual 34, 3) := by decide +kernel
theorem dX1_end_4 : decode cX1_end 4 = .ok (.ifCond .ne 26, 3) := by decide +kernel
theorem dX1_end_7 : decode cX1_end 7 = .ok (.aload_n 0, 1) := by decide +kernel
theorem dX1_end_8 : decode cX1_end 8 = .ok (.getfield 24, 3) := by decide +kernel
theorem dX1_end_11 : decode cX1_end 11 = .ok (.aload_n 0, 1) := by decide +kernel
theorem dX1_end_12 : decode cX1_end 12 = .ok (.getfield 31, 3) := by decide +kernel
theorem dX1_end_15 : decode cX1_end 15 = .ok (.aload_n 0, 1) := by decide +kernel
theorem dX1_end_16 : decode cX1_end 16 = .ok (.getfield 27, 3) := by decide +kernel
theorem dX1_end_19 : decode cX1_end 19 = .ok (.iastore, 1) := by decide +kernel
theorem dX1_end_20 : decode cX1_end 20 = .ok (.aload_n 0, 1) := by decide +kernel
theorem dX1_end_21 : decode cX1_end 21 = .ok (.dup, 1) := by decide +kernel
theorem dX1_end_22 : decode cX1_end 22 = .ok (.getfield 31, 3) := by decide +kernel
theorem dX1_end_25 : decode cX1_end 25 = .ok (.iconst 1, 1) := by decide +kernel
theorem dX1_end_26 : decode cX1_end 26 = .ok (.iadd, 1) := by decide +kernel
theorem dX1_end_27 : decode cX1_end 27 = .ok (.putfield 31, 3) := by decide +kernel
theorem dX1_end_30 : decode cX1_end 30 = .ok (.return_, 1) := by decide +kernel
theorem dX1_has_0 : decode cX1_has 0 = .ok (.iload_n 1, 1) := by decide +kernel
theorem dX1_has_1 : decode cX1_has 1 = .ok (.ifCond .lt 24, 3) := by decide +kernel
theorem dX1_has_4 : decode cX1_has 4 = .ok (.iload_n 1, 1) := by decide +kernel
theorem dX1_has_5 : decode cX1_has 5 = .ok (.aload_n 0, 1) := by decide +kernel
theorem dX1_has_6 : decode cX1_has 6 = .ok (.getfield 31, 3) := by decide +kernel
theorem dX1_has_9 : decode cX1_has 9 = .ok (.if_icmp .ge 16, 3) := by decide +kernel
theorem dX1_has_12 : decode cX1_has 12 = .ok (.aload_n 0, 1) := by decide +kernel
theorem dX1_has_13 : decode cX1_has 13 = .ok (.getfield 31, 3) := by decide +kernel
theorem dX1_has_16 : decode cX1_has 16 = .ok (.bipush 14, 2) := by decide +kernel
theorem dX1_has_18 : decode cX1_has 18 = .ok (.if_icmp .gt 7, 3) := by decide +kernel
theorem dX1_has_21 : decode cX1_has 21 = .ok (.iconst 1, 1) := by decide +kernel
theorem dX1_has_22 : decode cX1_has 22 = .ok (.goto 4, 3) := by decide +kernel
theorem dX1_has_25 : decode cX1_has 25 = .ok (.iconst 0, 1) := by decide +kernel
theorem dX1_has_26 : decode cX1_has 26 = .ok (.ireturn, 1) := by decide +kernel
theorem dX1_kindOf_0 : decode cX1_kindOf 0 = .ok (.aload_n 0, 1) := by decide +kernel
theorem dX1_kindOf_1 : decode cX1_kindOf 1 = .ok (.iload_n 1, 1) := by decide +kernel
theorem dX1_kindOf_2 : decode cX1_kindOf 2 = .ok (.invokevirtual 38, 3) := by decide +kernel
theorem dX1_kindOf_5 : decode cX1_kindOf 5 = .ok (.ifCond .eq 12, 3) := by decide +kernel
theorem dX1_kindOf_8 : decode cX1_kindOf 8 = .ok (.aload_n 0, 1) := by decide +kernel
theorem dX1_kindOf_9 : decode cX1_kindOf 9 = .ok (.getfield 15, 3) := by decide +kernel
theorem dX1_kindOf_12 : decode cX1_kindOf 12 = .ok (.iload_n 1, 1) := by decide +kernel
theorem dX1_kindOf_13 : decode cX1_kindOf 13 = .ok (.iaload, 1) := by decide +kernel
theorem dX1_kindOf_14 : decode cX1_kindOf 14 = .ok (.goto 4, 3) := by decide +kernel
theorem dX1_kindOf_17 : decode cX1_kindOf 17 = .ok (.iconst (-1), 1) := by decide +kernel
theorem dX1_kindOf_18 : decode cX1_kindOf 18 = .ok (.ireturn, 1) := by decide +kernel
theorem dX1_beginOf_0 : decode cX1_beginOf 0 = .ok (.aload_n 0, 1) := by decide +kernel
theorem dX1_beginOf_1 : decode cX1_beginOf 1 = .ok (.iload_n 1, 1) := by decide +kernel
theorem dX1_beginOf_2 : decode cX1_beginOf 2 = .ok (.invokevirtual 38, 3) := by decide +kernel
theorem dX1_beginOf_5 : decode cX1_beginOf 5 = .ok (.ifCond .eq 12, 3) := by decide +kernel
theorem dX1_beginOf_8 : decode cX1_beginOf 8 = .ok (.aload_n 0, 1) := by decide +kernel
theorem dX1_beginOf_9 : decode cX1_beginOf 9 = .ok (.getfield 18, 3) := by decide +kernel
theorem dX1_beginOf_12 : decode cX1_beginOf 12 = .ok (.iload_n 1, 1) := by decide +kernel
theorem dX1_beginOf_13 : decode cX1_beginOf 13 = .ok (.iaload, 1) := by decide +kernel
theorem dX1_beginOf_14 : decode cX1_beginOf 14 = .ok (.goto 4, 3) := by decide +kernel
theorem dX1_beginOf_17 : decode cX1_beginOf 17 = .ok (.iconst 0, 1) := by decide +kernel
theorem dX1_beginOf_18 : decode cX1_beginOf 18 = .ok (.ireturn, 1) := by decide +kernel
theorem dX1_middleOf_0 : decode cX1_middleOf 0 = .ok (.aload_n 0, 1) := by decide +kernel
theorem dX1_middleOf_1 : decode cX1_middleOf 1 = .ok (.iload_n 1, 1) := by decide +kernel
theorem dX1_middleOf_2 : decode cX1_middleOf 2 = .ok (.invokevirtual 38, 3) := by decide +kernel
theorem dX1_middleOf_5 : decode cX1_middleOf 5 = .ok (.ifCond .eq 12, 3) := by decide +kernel
theorem dX1_middleOf_8 : decode cX1_middleOf 8 = .ok (.aload_n 0, 1) := by decide +kernel
theorem dX1_middleOf_9 : decode cX1_middleOf 9 = .ok (.getfield 21, 3) := by decide +kernel
theorem dX1_middleOf_12 : decode cX1_middleOf 12 = .ok (.iload_n 1, 1) := by decide +kernel
theorem dX1_middleOf_13 : decode cX1_middleOf 13 = .ok (.iaload, 1) := by decide +kernel
theorem dX1_middleOf_14 : decode cX1_middleOf 14 = .ok (.goto 4, 3) := by decide +kernel
theorem dX1_middleOf_17 : decode cX1_middleOf 17 = .ok (.iconst 0, 1) := by decide +kernel
theorem dX1_middleOf_18 : decode cX1_middleOf 18 = .ok (.ireturn, 1) := by decide +kernel
theorem dX1_endOf_0 : decode cX1_endOf 0 = .ok (.aload_n 0, 1) := by decide +kernel
theorem dX1_endOf_1 : decode cX1_endOf 1 = .ok (.iload_n 1, 1) := by decide +kernel
theorem dX1_endOf_2 : decode cX1_endOf 2 = .ok (.invokevirtual 38, 3) := by decide +kernel
theorem dX1_endOf_5 : decode cX1_endOf 5 = .ok (.ifCond .eq 12, 3) := by decide +kernel
theorem dX1_endOf_8 : decode cX1_endOf 8 = .ok (.aload_n 0, 1) := by decide +kernel
theorem dX1_endOf_9 : decode cX1_endOf 9 = .ok (.getfield 24, 3) := by decide +kernel
theorem dX1_endOf_12 : decode cX1_endOf 12 = .ok (.iload_n 1, 1) := by decide +kernel
theorem dX1_endOf_13 : decode cX1_endOf 13 = .ok (.iaload, 1) := by decide +kernel
theorem dX1_endOf_14 : decode cX1_endOf 14 = .ok (.goto 4, 3) := by decide +kernel
theorem dX1_endOf_17 : decode cX1_endOf 17 = .ok (.iconst 0, 1) := by decide +kernel
theorem dX1_endOf_18 : decode cX1_endOf 18 = .ok (.ireturn, 1) := by decide +kernel
theorem dX1_stepAt_0 : decode cX1_stepAt 0 = .ok (.iload_n 1, 1) := by decide +kernel
theorem dX1_stepAt_1 : decode cX1_stepAt 1 = .ok (.ifCond .lt 20, 3) := by decide +kernel
theorem dX1_stepAt_4 : decode cX1_stepAt 4 = .ok (.iload_n 1, 1) := by decide +kernel
theorem dX1_stepAt_5 : decode cX1_stepAt 5 = .ok (.aload_n 0, 1) := by decide +kernel
theorem dX1_stepAt_6 : decode cX1_stepAt 6 = .ok (.getfield 27, 3) := by decide +kernel
theorem dX1_stepAt_9 : decode cX1_stepAt 9 = .ok (.if_icmp .ge 12, 3) := by decide +kernel
theorem dX1_stepAt_12 : decode cX1_stepAt 12 = .ok (.aload_n 0, 1) := by decide +kernel
theorem dX1_stepAt_13 : decode cX1_stepAt 13 = .ok (.getfield 11, 3) := by decide +kernel
theorem dX1_stepAt_16 : decode cX1_stepAt 16 = .ok (.iload_n 1, 1) := by decide +kernel
theorem dX1_stepAt_17 : decode cX1_stepAt 17 = .ok (.iaload, 1) := by decide +kernel
theorem dX1_stepAt_18 : decode cX1_stepAt 18 = .ok (.goto 4, 3) := by decide +kernel
theorem dX1_stepAt_21 : decode cX1_stepAt 21 = .ok (.iconst 0, 1) := by decide +kernel
theorem dX1_stepAt_22 : decode cX1_stepAt 22 = .ok (.ireturn, 1) := by decide +kernel
theorem dX1_add_0 : decode cX1_add 0 = .ok (.aload_n 0, 1) := by decide +kernel
theorem dX1_add_1 : decode cX1_add 1 = .ok (.getfield 27, 3) := by decide +kernel
theorem dX1_add_4 : decode cX1_add 4 = .ok (.sipush 200, 3) := by decide +kernel
theorem dX1_add_7 : decode cX1_add 7 = .ok (.if_icmp .ge 27, 3) := by decide +kernel
theorem dX1_add_10 : decode cX1_add 10 = .ok (.aload_n 0, 1) := by decide +kernel
theorem dX1_add_11 : decode cX1_add 11 = .ok (.getfield 11, 3) := by decide +kernel
theorem dX1_add_14 : decode cX1_add 14 = .ok (.aload_n 0, 1) := by decide +kernel
theorem dX1_add_15 : decode cX1_add 15 = .ok (.getfield 27, 3) := by decide +kernel
theorem dX1_add_18 : decode cX1_add 18 = .ok (.iload_n 2, 1) := by decide +kernel
theorem dX1_add_19 : decode cX1_add 19 = .ok (.iconst 4, 1) := by decide +kernel
theorem dX1_add_20 : decode cX1_add 20 = .ok (.ishl, 1) := by decide +kernel
theorem dX1_add_21 : decode cX1_add 21 = .ok (.iload_n 1, 1) := by decide +kernel
theorem dX1_add_22 : decode cX1_add 22 = .ok (.ior, 1) := by decide +kernel
theorem dX1_add_23 : decode cX1_add 23 = .ok (.iastore, 1) := by decide +kernel
theorem dX1_add_24 : decode cX1_add 24 = .ok (.aload_n 0, 1) := by decide +kernel
theorem dX1_add_25 : decode cX1_add 25 = .ok (.dup, 1) := by decide +kernel
theorem dX1_add_26 : decode cX1_add 26 = .ok (.getfield 27, 3) := by decide +kernel
theorem dX1_add_29 : decode cX1_add 29 = .ok (.iconst 1, 1) := by decide +kernel
theorem dX1_add_30 : decode cX1_add 30 = .ok (.iadd, 1) := by decide +kernel
theorem dX1_add_31 : decode cX1_add 31 = .ok (.putfield 27, 3) := by decide +kernel
theorem dX1_add_34 : decode cX1_add 34 = .ok (.return_, 1) := by decide +kernel
theorem dX1_addJump_0 : decode cX1_addJump 0 = .ok (.aload_n 0, 1) := by decide +kernel
theorem dX1_addJump_1 : decode cX1_addJump 1 = .ok (.iload_n 1, 1) := by decide +kernel
theorem dX1_addJump_2 : decode cX1_addJump 2 = .ok (.iload_n 2, 1) := by decide +kernel
theorem dX1_addJump_3 : decode cX1_addJump 3 = .ok (.invokevirtual 42, 3) := by decide +kernel
theorem dX1_addJump_6 : decode cX1_addJump 6 = .ok (.aload_n 0, 1) := by decide +kernel
theorem dX1_addJump_7 : decode cX1_addJump 7 = .ok (.getfield 27, 3) := by decide +kernel
theorem dX1_addJump_10 : decode cX1_addJump 10 = .ok (.iconst 1, 1) := by decide +kernel
theorem dX1_addJump_11 : decode cX1_addJump 11 = .ok (.isub, 1) := by decide +kernel
theorem dX1_addJump_12 : decode cX1_addJump 12 = .ok (.ireturn, 1) := by decide +kernel
theorem dX1_landHere_0 : decode cX1_landHere 0 = .ok (.iload_n 1, 1) := by decide +kernel
theorem dX1_landHere_1 : decode cX1_landHere 1 = .ok (.istore_n 2, 1) := by decide +kernel
theorem dX1_landHere_2 : decode cX1_landHere 2 = .ok (.iconst 0, 1) := by decide +kernel
theorem dX1_landHere_3 : decode cX1_landHere 3 = .ok (.istore_n 3, 1) := by decide +kernel
theorem dX1_landHere_4 : decode cX1_landHere 4 = .ok (.iload_n 3, 1) := by decide +kernel
theorem dX1_landHere_5 : decode cX1_landHere 5 = .ok (.sipush 200, 3) := by decide +kernel
theorem dX1_landHere_8 : decode cX1_landHere 8 = .ok (.if_icmp .ge 51, 3) := by decide +kernel
theorem dX1_landHere_11 : decode cX1_landHere 11 = .ok (.iload_n 2, 1) := by decide +kernel
theorem dX1_landHere_12 : decode cX1_landHere 12 = .ok (.ifCond .lt 47, 3) := by decide +kernel
theorem dX1_landHere_15 : decode cX1_landHere 15 = .ok (.iload_n 2, 1) := by decide +kernel
theorem dX1_landHere_16 : decode cX1_landHere 16 = .ok (.sipush 200, 3) := by decide +kernel
theorem dX1_landHere_19 : decode cX1_landHere 19 = .ok (.if_icmp .ge 40, 3) := by decide +kernel
theorem dX1_landHere_22 : decode cX1_landHere 22 = .ok (.aload_n 0, 1) := by decide +kernel
theorem dX1_landHere_23 : decode cX1_landHere 23 = .ok (.getfield 11, 3) := by decide +kernel
theorem dX1_landHere_26 : decode cX1_landHere 26 = .ok (.iload_n 2, 1) := by decide +kernel
theorem dX1_landHere_27 : decode cX1_landHere 27 = .ok (.iaload, 1) := by decide +kernel
theorem dX1_landHere_28 : decode cX1_landHere 28 = .ok (.istore 4, 2) := by decide +kernel
theorem dX1_landHere_30 : decode cX1_landHere 30 = .ok (.aload_n 0, 1) := by decide +kernel
theorem dX1_landHere_31 : decode cX1_landHere 31 = .ok (.getfield 11, 3) := by decide +kernel
theorem dX1_landHere_34 : decode cX1_landHere 34 = .ok (.iload_n 2, 1) := by decide +kernel
theorem dX1_landHere_35 : decode cX1_landHere 35 = .ok (.aload_n 0, 1) := by decide +kernel
theorem dX1_landHere_36 : decode cX1_landHere 36 = .ok (.getfield 27, 3) := by decide +kernel
theorem dX1_landHere_39 : decode cX1_landHere 39 = .ok (.iconst 4, 1) := by decide +kernel
theorem dX1_landHere_40 : decode cX1_landHere 40 = .ok (.ishl, 1) := by decide +kernel
theorem dX1_landHere_41 : decode cX1_landHere 41 = .ok (.iload 4, 2) := by decide +kernel
theorem dX1_landHere_43 : decode cX1_landHere 43 = .ok (.bipush 15, 2) := by decide +kernel
theorem dX1_landHere_45 : decode cX1_landHere 45 = .ok (.iand, 1) := by decide +kernel
theorem dX1_landHere_46 : decode cX1_landHere 46 = .ok (.ior, 1) := by decide +kernel
theorem dX1_landHere_47 : decode cX1_landHere 47 = .ok (.iastore, 1) := by decide +kernel
theorem dX1_landHere_48 : decode cX1_landHere 48 = .ok (.iload 4, 2) := by decide +kernel
theorem dX1_landHere_50 : decode cX1_landHere 50 = .ok (.iconst 4, 1) := by decide +kernel
theorem dX1_landHere_51 : decode cX1_landHere 51 = .ok (.ishr, 1) := by decide +kernel
theorem dX1_landHere_52 : decode cX1_landHere 52 = .ok (.istore_n 2, 1) := by decide +kernel
theorem dX1_landHere_53 : decode cX1_landHere 53 = .ok (.iinc 3 1, 3) := by decide +kernel
theorem dX1_landHere_56 : decode cX1_landHere 56 = .ok (.goto (-52), 3) := by decide +kernel
theorem dX1_landHere_59 : decode cX1_landHere 59 = .ok (.return_, 1) := by decide +kernel
theorem dX2_init_0 : decode cX2_init 0 = .ok (.aload_n 0, 1) := by decide +kernel
theorem dX2_init_1 : decode cX2_init 1 = .ok (.invokespecial 3, 3) := by decide +kernel
theorem dX2_init_4 : decode cX2_init 4 = .ok (.aload_n 0, 1) := by decide +kernel
theorem dX2_init_5 : decode cX2_init 5 = .ok (.bipush 26, 2) := by decide +kernel
theorem dX2_init_7 : decode cX2_init 7 = .ok (.newarray .int, 2) := by decide +kernel
theorem dX2_init_9 : decode cX2_init 9 = .ok (.putfield 11, 3) := by decide +kernel
theorem dX2_init_12 : decode cX2_init 12 = .ok (.aload_n 0, 1) := by decide +kernel
theorem dX2_init_13 : decode cX2_init 13 = .ok (.bipush 40, 2) := by decide +kernel
theorem dX2_init_15 : decode cX2_init 15 = .ok (.newarray .int, 2) := by decide +kernel
theorem dX2_init_17 : decode cX2_init 17 = .ok (.putfield 15, 3) := by decide +kernel
theorem dX2_init_20 : decode cX2_init 20 = .ok (.aload_n 0, 1) := by decide +kernel
theorem dX2_init_21 : decode cX2_init 21 = .ok (.iconst 0, 1) := by decide +kernel
theorem dX2_init_22 : decode cX2_init 22 = .ok (.putfield 18, 3) := by decide +kernel
theorem dX2_init_25 : decode cX2_init 25 = .ok (.aload_n 0, 1) := by decide +kernel
theorem dX2_init_26 : decode cX2_init 26 = .ok (.iconst 0, 1) := by decide +kernel
theorem dX2_init_27 : decode cX2_init 27 = .ok (.putfield 22, 3) := by decide +kernel
theorem dX2_init_30 : decode cX2_init 30 = .ok (.return_, 1) := by decide +kernel
theorem dX2_clearLetters_0 : decode cX2_clearLetters 0 = .ok (.iconst 0, 1) := by decide +kernel
theorem dX2_clearLetters_1 : decode cX2_clearLetters 1 = .ok (.istore_n 1, 1) := by decide +kernel
theorem dX2_clearLetters_2 : decode cX2_clearLetters 2 = .ok (.iload_n 1, 1) := by decide +kernel
theorem dX2_clearLetters_3 : decode cX2_clearLetters 3 = .ok (.bipush 26, 2) := by decide +kernel
theorem dX2_clearLetters_5 : decode cX2_clearLetters 5 = .ok (.if_icmp .ge 16, 3) := by decide +kernel
theorem dX2_clearLetters_8 : decode cX2_clearLetters 8 = .ok (.aload_n 0, 1) := by decide +kernel
theorem dX2_clearLetters_9 : decode cX2_clearLetters 9 = .ok (.getfield 11, 3) := by decide +kernel
theorem dX2_clearLetters_12 : decode cX2_clearLetters 12 = .ok (.iload_n 1, 1) := by decide +kernel
theorem dX2_clearLetters_13 : decode cX2_clearLetters 13 = .ok (.iconst 0, 1) := by decide +kernel
theorem dX2_clearLetters_14 : decode cX2_clearLetters 14 = .ok (.iastore, 1) := by decide +kernel
theorem dX2_clearLetters_15 : decode cX2_clearLetters 15 = .ok (.iinc 1 1, 3) := by decide +kernel
theorem dX2_clearLetters_18 : decode cX2_clearLetters 18 = .ok (.goto (-16), 3) := by decide +kernel
theorem dX2_clearLetters_21 : decode cX2_clearLetters 21 = .ok (.return_, 1) := by decide +kernel
theorem dX2_set_0 : decode cX2_set 0 = .ok (.iload_n 1, 1) := by decide +kernel
theorem dX2_set_1 : decode cX2_set 1 = .ok (.bipush 97, 2) := by decide +kernel
theorem dX2_set_3 : decode cX2_set 3 = .ok (.isub, 1) := by decide +kernel
theorem dX2_set_4 : decode cX2_set 4 = .ok (.istore_n 3, 1) := by decide +kernel
theorem dX2_set_5 : decode cX2_set 5 = .ok (.iload_n 3, 1) := by decide +kernel
theorem dX2_set_6 : decode cX2_set 6 = .ok (.ifCond .lt 16, 3) := by decide +kernel
theorem dX2_set_9 : decode cX2_set 9 = .ok (.iload_n 3, 1) := by decide +kernel
theorem dX2_set_10 : decode cX2_set 10 = .ok (.bipush 26, 2) := by decide +kernel
theorem dX2_set_12 : decode cX2_set 12 = .ok (.if_icmp .ge 10, 3) := by decide +kernel
theorem dX2_set_15 : decode cX2_set 15 = .ok (.aload_n 0, 1) := by decide +kernel
theorem dX2_set_16 : decode cX2_set 16 = .ok (.getfield 11, 3) := by decide +kernel
theorem dX2_set_19 : decode cX2_set 19 = .ok (.iload_n 3, 1) := by decide +kernel
theorem dX2_set_20 : decode cX2_set 20 = .ok (.iload_n 2, 1) := by decide +kernel
theorem dX2_set_21 : decode cX2_set 21 = .ok (.iastore, 1) := by decide +kernel
theorem dX2_set_22 : decode cX2_set 22 = .ok (.return_, 1) := by decide +kernel
theorem dX2_setFacts_0 : decode cX2_setFacts 0 = .ok (.iconst 0, 1) := by decide +kernel
theorem dX2_setFacts_1 : decode cX2_setFacts 1 = .ok (.istore_n 2, 1) := by decide +kernel
theorem dX2_setFacts_2 : decode cX2_setFacts 2 = .ok (.iload_n 2, 1) := by decide +kernel
theorem dX2_setFacts_3 : decode cX2_setFacts 3 = .ok (.bipush 10, 2) := by decide +kernel
theorem dX2_setFacts_5 : decode cX2_setFacts 5 = .ok (.if_icmp .ge 20, 3) := by decide +kernel
theorem dX2_setFacts_8 : decode cX2_setFacts 8 = .ok (.aload_n 0, 1) := by decide +kernel
theorem dX2_setFacts_9 : decode cX2_setFacts 9 = .ok (.getfield 11, 3) := by decide +kernel
theorem dX2_setFacts_12 : decode cX2_setFacts 12 = .ok (.iload_n 2, 1) := by decide +kernel
theorem dX2_setFacts_13 : decode cX2_setFacts 13 = .ok (.iload_n 1, 1) := by decide +kernel
theorem dX2_setFacts_14 : decode cX2_setFacts 14 = .ok (.iload_n 2, 1) := by decide +kernel
theorem dX2_setFacts_15 : decode cX2_setFacts 15 = .ok (.ishr, 1) := by decide +kernel
theorem dX2_setFacts_16 : decode cX2_setFacts 16 = .ok (.iconst 1, 1) := by decide +kernel
theorem dX2_setFacts_17 : decode cX2_setFacts 17 = .ok (.iand, 1) := by decide +kernel
theorem dX2_setFacts_18 : decode cX2_setFacts 18 = .ok (.iastore, 1) := by decide +kernel
theorem dX2_setFacts_19 : decode cX2_setFacts 19 = .ok (.iinc 2 1, 3) := by decide +kernel
theorem dX2_setFacts_22 : decode cX2_setFacts 22 = .ok (.goto (-20), 3) := by decide +kernel
theorem dX2_setFacts_25 : decode cX2_setFacts 25 = .ok (.return_, 1) := by decide +kernel
theorem dX2_firstThatHolds_0 : decode cX2_firstThatHolds 0 = .ok (.iconst 0, 1) := by decide +kernel
theorem dX2_firstThatHolds_1 : decode cX2_firstThatHolds 1 = .ok (.istore_n 3, 1) := by decide +kernel
theorem dX2_firstThatHolds_2 : decode cX2_firstThatHolds 2 = .ok (.iload_n 3, 1) := by decide +kernel
theorem dX2_firstThatHolds_3 : decode cX2_firstThatHolds 3 = .ok (.aload_n 1, 1) := by decide +kernel
theorem dX2_firstThatHolds_4 : decode cX2_firstThatHolds 4 = .ok (.invokevirtual 26, 3) := by decide +kernel
theorem dX2_firstThatHolds_7 : decode cX2_firstThatHolds 7 = .ok (.if_icmp .ge 45, 3) := by decide +kernel
theorem dX2_firstThatHolds_10 : decode cX2_firstThatHolds 10 = .ok (.aload_n 1, 1) := by decide +kernel
theorem dX2_firstThatHolds_11 : decode cX2_firstThatHolds 11 = .ok (.iload_n 3, 1) := by decide +kernel
theorem dX2_firstThatHolds_12 : decode cX2_firstThatHolds 12 = .ok (.invokevirtual 32, 3) := by decide +kernel
theorem dX2_firstThatHolds_15 : decode cX2_firstThatHolds 15 = .ok (.iload_n 2, 1) := by decide +kernel
theorem dX2_firstThatHolds_16 : decode cX2_firstThatHolds 16 = .ok (.if_icmp .ne 30, 3) := by decide +kernel
theorem dX2_firstThatHolds_19 : decode cX2_firstThatHolds 19 = .ok (.aload_n 0, 1) := by decide +kernel
theorem dX2_firstThatHolds_20 : decode cX2_firstThatHolds 20 = .ok (.aload_n 1, 1) := by decide +kernel
theorem dX2_firstThatHolds_21 : decode cX2_firstThatHolds 21 = .ok (.aload_n 1, 1) := by decide +kernel
theorem dX2_firstThatHolds_22 : decode cX2_firstThatHolds 22 = .ok (.iload_n 3, 1) := by decide +kernel
theorem dX2_firstThatHolds_23 : decode cX2_firstThatHolds 23 = .ok (.invokevirtual 36, 3) := by decide +kernel
theorem dX2_firstThatHolds_26 : decode cX2_firstThatHolds 26 = .ok (.aload_n 1, 1) := by decide +kernel
theorem dX2_firstThatHolds_27 : decode cX2_firstThatHolds 27 = .ok (.iload_n 3, 1) := by decide +kernel
theorem dX2_firstThatHolds_28 : decode cX2_firstThatHolds 28 = .ok (.invokevirtual 39, 3) := by decide +kernel
theorem dX2_firstThatHolds_31 : decode cX2_firstThatHolds 31 = .ok (.invokevirtual 42, 3) := by decide +kernel
theorem dX2_firstThatHolds_34 : decode cX2_firstThatHolds 34 = .ok (.ifCond .eq 12, 3) := by decide +kernel
theorem dX2_firstThatHolds_37 : decode cX2_firstThatHolds 37 = .ok (.aload_n 0, 1) := by decide +kernel
theorem dX2_firstThatHolds_38 : decode cX2_firstThatHolds 38 = .ok (.getfield 22, 3) := by decide +kernel
theorem dX2_firstThatHolds_41 : decode cX2_firstThatHolds 41 = .ok (.ifCond .eq 5, 3) := by decide +kernel
theorem dX2_firstThatHolds_44 : decode cX2_firstThatHolds 44 = .ok (.iload_n 3, 1) := by decide +kernel
theorem dX2_firstThatHolds_45 : decode cX2_firstThatHolds 45 = .ok (.ireturn, 1) := by decide +kernel
theorem dX2_firstThatHolds_46 : decode cX2_firstThatHolds 46 = .ok (.iinc 3 1, 3) := by decide +kernel
theorem dX2_firstThatHolds_49 : decode cX2_firstThatHolds 49 = .ok (.goto (-47), 3) := by decide +kernel
theorem dX2_firstThatHolds_52 : decode cX2_firstThatHolds 52 = .ok (.iconst (-1), 1) := by decide +kernel
theorem dX2_firstThatHolds_53 : decode cX2_firstThatHolds 53 = .ok (.ireturn, 1) := by decide +kernel
theorem dX2_valueOf_0 : decode cX2_valueOf 0 = .ok (.aload_n 0, 1) := by decide +kernel
theorem dX2_valueOf_1 : decode cX2_valueOf 1 = .ok (.aload_n 1, 1) := by decide +kernel
theorem dX2_valueOf_2 : decode cX2_valueOf 2 = .ok (.aload_n 1, 1) := by decide +kernel
theorem dX2_valueOf_3 : decode cX2_valueOf 3 = .ok (.iload_n 2, 1) := by decide +kernel
theorem dX2_valueOf_4 : decode cX2_valueOf 4 = .ok (.invokevirtual 46, 3) := by decide +kernel
theorem dX2_valueOf_7 : decode cX2_valueOf 7 = .ok (.aload_n 1, 1) := by decide +kernel
theorem dX2_valueOf_8 : decode cX2_valueOf 8 = .ok (.iload_n 2, 1) := by decide +kernel
theorem dX2_valueOf_9 : decode cX2_valueOf 9 = .ok (.invokevirtual 36, 3) := by decide +kernel
theorem dX2_valueOf_12 : decode cX2_valueOf 12 = .ok (.invokevirtual 42, 3) := by decide +kernel
theorem dX2_valueOf_15 : decode cX2_valueOf 15 = .ok (.ifCond .eq 15, 3) := by decide +kernel
theorem dX2_valueOf_18 : decode cX2_valueOf 18 = .ok (.aload_n 0, 1) := by decide +kernel
theorem dX2_valueOf_19 : decode cX2_valueOf 19 = .ok (.getfield 18, 3) := by decide +kernel
theorem dX2_valueOf_22 : decode cX2_valueOf 22 = .ok (.iconst 1, 1) := by decide +kernel
theorem dX2_valueOf_23 : decode cX2_valueOf 23 = .ok (.if_icmp .ne 7, 3) := by decide +kernel
theorem dX2_valueOf_26 : decode cX2_valueOf 26 = .ok (.iconst 1, 1) := by decide +kernel
theorem dX2_valueOf_27 : decode cX2_valueOf 27 = .ok (.goto 4, 3) := by decide +kernel
theorem dX2_valueOf_30 : decode cX2_valueOf 30 = .ok (.iconst 0, 1) := by decide +kernel
theorem dX2_valueOf_31 : decode cX2_valueOf 31 = .ok (.istore 4, 2) := by decide +kernel
theorem dX2_valueOf_33 : decode cX2_valueOf 33 = .ok (.iload 4, 2) := by decide +kernel
theorem dX2_valueOf_35 : decode cX2_valueOf 35 = .ok (.ifCond .eq 20, 3) := by decide +kernel
theorem dX2_valueOf_38 : decode cX2_valueOf 38 = .ok (.iconst 0, 1) := by decide +kernel
theorem dX2_valueOf_39 : decode cX2_valueOf 39 = .ok (.iload_n 3, 1) := by decide +kernel
theorem dX2_valueOf_40 : decode cX2_valueOf 40 = .ok (.aload_n 0, 1) := by decide +kernel
theorem dX2_valueOf_41 : decode cX2_valueOf 41 = .ok (.getfield 15, 3) := by decide +kernel
theorem dX2_valueOf_44 : decode cX2_valueOf 44 = .ok (.iconst 0, 1) := by decide +kernel
theorem dX2_valueOf_45 : decode cX2_valueOf 45 = .ok (.iaload, 1) := by decide +kernel
theorem dX2_valueOf_46 : decode cX2_valueOf 46 = .ok (.invokestatic 49, 3) := by decide +kernel
theorem dX2_valueOf_49 : decode cX2_valueOf 49 = .ok (.invokestatic 55, 3) := by decide +kernel
theorem dX2_valueOf_52 : decode cX2_valueOf 52 = .ok (.goto 4, 3) := by decide +kernel
theorem dX2_valueOf_55 : decode cX2_valueOf 55 = .ok (.iconst 0, 1) := by decide +kernel
theorem dX2_valueOf_56 : decode cX2_valueOf 56 = .ok (.ireturn, 1) := by decide +kernel
theorem dX2_run_0 : decode cX2_run 0 = .ok (.aload_n 0, 1) := by decide +kernel
theorem dX2_run_1 : decode cX2_run 1 = .ok (.iconst 0, 1) := by decide +kernel
theorem dX2_run_2 : decode cX2_run 2 = .ok (.putfield 18, 3) := by decide +kernel
theorem dX2_run_5 : decode cX2_run 5 = .ok (.aload_n 0, 1) := by decide +kernel
theorem dX2_run_6 : decode cX2_run 6 = .ok (.iconst 0, 1) := by decide +kernel
theorem dX2_run_7 : decode cX2_run 7 = .ok (.putfield 22, 3) := by decide +kernel
theorem dX2_run_10 : decode cX2_run 10 = .ok (.iload_n 2, 1) := by decide +kernel
theorem dX2_run_11 : decode cX2_run 11 = .ok (.istore 4, 2) := by decide +kernel
theorem dX2_run_13 : decode cX2_run 13 = .ok (.iconst 0, 1) := by decide +kernel
theorem dX2_run_14 : decode cX2_run 14 = .ok (.istore 5, 2) := by decide +kernel
theorem dX2_run_16 : decode cX2_run 16 = .ok (.iload 5, 2) := by decide +kernel
theorem dX2_run_18 : decode cX2_run 18 = .ok (.sipush 200, 3) := by decide +kernel
theorem dX2_run_21 : decode cX2_run 21 = .ok (.if_icmp .ge 178, 3) := by decide +kernel
theorem dX2_run_24 : decode cX2_run 24 = .ok (.iload 4, 2) := by decide +kernel
theorem dX2_run_26 : decode cX2_run 26 = .ok (.iload_n 3, 1) := by decide +kernel
theorem dX2_run_27 : decode cX2_run 27 = .ok (.if_icmp .ge 172, 3) := by decide +kernel
theorem dX2_run_30 : decode cX2_run 30 = .ok (.aload_n 1, 1) := by decide +kernel
theorem dX2_run_31 : decode cX2_run 31 = .ok (.iload 4, 2) := by decide +kernel
theorem dX2_run_33 : decode cX2_run 33 = .ok (.invokevirtual 58, 3) := by decide +kernel
theorem dX2_run_36 : decode cX2_run 36 = .ok (.istore 6, 2) := by decide +kernel
theorem dX2_run_38 : decode cX2_run 38 = .ok (.iload 6, 2) := by decide +kernel
theorem dX2_run_40 : decode cX2_run 40 = .ok (.bipush 15, 2) := by decide +kernel
theorem dX2_run_42 : decode cX2_run 42 = .ok (.iand, 1) := by decide +kernel
theorem dX2_run_43 : decode cX2_run 43 = .ok (.istore 7, 2) := by decide +kernel
theorem dX2_run_45 : decode cX2_run 45 = .ok (.iload 6, 2) := by decide +kernel
theorem dX2_run_47 : decode cX2_run 47 = .ok (.iconst 4, 1) := by decide +kernel
theorem dX2_run_48 : decode cX2_run 48 = .ok (.ishr, 1) := by decide +kernel
theorem dX2_run_49 : decode cX2_run 49 = .ok (.istore 8, 2) := by decide +kernel
theorem dX2_run_51 : decode cX2_run 51 = .ok (.iinc 4 1, 3) := by decide +kernel
theorem dX2_run_54 : decode cX2_run 54 = .ok (.iload 7, 2) := by decide +kernel
theorem dX2_run_56 : decode cX2_run 56 = .ok (.ifCond .ne 12, 3) := by decide +kernel
theorem dX2_run_59 : decode cX2_run 59 = .ok (.aload_n 0, 1) := by decide +kernel
theorem dX2_run_60 : decode cX2_run 60 = .ok (.iload 8, 2) := by decide +kernel
theorem dX2_run_62 : decode cX2_run 62 = .ok (.invokevirtual 61, 3) := by decide +kernel
theorem dX2_run_65 : decode cX2_run 65 = .ok (.goto 128, 3) := by decide +kernel
theorem dX2_run_68 : decode cX2_run 68 = .ok (.iload 7, 2) := by decide +kernel
theorem dX2_run_70 : decode cX2_run 70 = .ok (.iconst 1, 1) := by decide +kernel
theorem dX2_run_71 : decode cX2_run 71 = .ok (.if_icmp .ne 33, 3) := by decide +kernel
theorem dX2_run_74 : decode cX2_run 74 = .ok (.aload_n 0, 1) := by decide +kernel
theorem dX2_run_75 : decode cX2_run 75 = .ok (.iload 8, 2) := by decide +kernel
theorem dX2_run_77 : decode cX2_run 77 = .ok (.ifCond .lt 20, 3) := by decide +kernel
theorem dX2_run_80 : decode cX2_run 80 = .ok (.iload 8, 2) := by decide +kernel
theorem dX2_run_82 : decode cX2_run 82 = .ok (.bipush 26, 2) := by decide +kernel
theorem dX2_run_84 : decode cX2_run 84 = .ok (.if_icmp .ge 13, 3) := by decide +kernel
theorem dX2_run_87 : decode cX2_run 87 = .ok (.aload_n 0, 1) := by decide +kernel
theorem dX2_run_88 : decode cX2_run 88 = .ok (.getfield 11, 3) := by decide +kernel
theorem dX2_run_91 : decode cX2_run 91 = .ok (.iload 8, 2) := by decide +kernel
theorem dX2_run_93 : decode cX2_run 93 = .ok (.iaload, 1) := by decide +kernel
theorem dX2_run_94 : decode cX2_run 94 = .ok (.goto 4, 3) := by decide +kernel
theorem dX2_run_97 : decode cX2_run 97 = .ok (.iconst 0, 1) := by decide +kernel
theorem dX2_run_98 : decode cX2_run 98 = .ok (.invokevirtual 61, 3) := by decide +kernel
theorem dX2_run_101 : decode cX2_run 101 = .ok (.goto 92, 3) := by decide +kernel
theorem dX2_run_104 : decode cX2_run 104 = .ok (.iload 7, 2) := by decide +kernel
theorem dX2_run_106 : decode cX2_run 106 = .ok (.bipush 10, 2) := by decide +kernel
theorem dX2_run_108 : decode cX2_run 108 = .ok (.if_icmp .ne 22, 3) := by decide +kernel
theorem dX2_run_111 : decode cX2_run 111 = .ok (.aload_n 0, 1) := by decide +kernel
theorem dX2_run_112 : decode cX2_run 112 = .ok (.aload_n 0, 1) := by decide +kernel
theorem dX2_run_113 : decode cX2_run 113 = .ok (.getfield 22, 3) := by decide +kernel
theorem dX2_run_116 : decode cX2_run 116 = .ok (.ifCond .ne 7, 3) := by decide +kernel
theorem dX2_run_119 : decode cX2_run 119 = .ok (.iconst 1, 1) := by decide +kernel
theorem dX2_run_120 : decode cX2_run 120 = .ok (.goto 4, 3) := by decide +kernel
theorem dX2_run_123 : decode cX2_run 123 = .ok (.iconst 0, 1) := by decide +kernel
theorem dX2_run_124 : decode cX2_run 124 = .ok (.putfield 22, 3) := by decide +kernel
theorem dX2_run_127 : decode cX2_run 127 = .ok (.goto 66, 3) := by decide +kernel
theorem dX2_run_130 : decode cX2_run 130 = .ok (.iload 7, 2) := by decide +kernel
theorem dX2_run_132 : decode cX2_run 132 = .ok (.bipush 11, 2) := by decide +kernel
theorem dX2_run_134 : decode cX2_run 134 = .ok (.if_icmp .ne 22, 3) := by decide +kernel
theorem dX2_run_137 : decode cX2_run 137 = .ok (.aload_n 0, 1) := by decide +kernel
theorem dX2_run_138 : decode cX2_run 138 = .ok (.getfield 22, 3) := by decide +kernel
theorem dX2_run_141 : decode cX2_run 141 = .ok (.ifCond .eq 8, 3) := by decide +kernel
theorem dX2_run_144 : decode cX2_run 144 = .ok (.iload 8, 2) := by decide +kernel
theorem dX2_run_146 : decode cX2_run 146 = .ok (.goto 5, 3) := by decide +kernel
theorem dX2_run_149 : decode cX2_run 149 = .ok (.iload 4, 2) := by decide +kernel
theorem dX2_run_151 : decode cX2_run 151 = .ok (.istore 4, 2) := by decide +kernel
theorem dX2_run_153 : decode cX2_run 153 = .ok (.goto 40, 3) := by decide +kernel
theorem dX2_run_156 : decode cX2_run 156 = .ok (.iload 7, 2) := by decide +kernel
theorem dX2_run_158 : decode cX2_run 158 = .ok (.bipush 12, 2) := by decide +kernel
theorem dX2_run_160 : decode cX2_run 160 = .ok (.if_icmp .ne 22, 3) := by decide +kernel
theorem dX2_run_163 : decode cX2_run 163 = .ok (.aload_n 0, 1) := by decide +kernel
theorem dX2_run_164 : decode cX2_run 164 = .ok (.getfield 22, 3) := by decide +kernel
theorem dX2_run_167 : decode cX2_run 167 = .ok (.ifCond .eq 8, 3) := by decide +kernel
theorem dX2_run_170 : decode cX2_run 170 = .ok (.iload 4, 2) := by decide +kernel
theorem dX2_run_172 : decode cX2_run 172 = .ok (.goto 5, 3) := by decide +kernel
theorem dX2_run_175 : decode cX2_run 175 = .ok (.iload 8, 2) := by decide +kernel
theorem dX2_run_177 : decode cX2_run 177 = .ok (.istore 4, 2) := by decide +kernel
theorem dX2_run_179 : decode cX2_run 179 = .ok (.goto 14, 3) := by decide +kernel
theorem dX2_run_182 : decode cX2_run 182 = .ok (.aload_n 0, 1) := by decide +kernel
theorem dX2_run_183 : decode cX2_run 183 = .ok (.iload 7, 2) := by decide +kernel
theorem dX2_run_185 : decode cX2_run 185 = .ok (.invokevirtual 65, 3) := by decide +kernel
theorem dX2_run_188 : decode cX2_run 188 = .ok (.ifCond .ne 5, 3) := by decide +kernel
theorem dX2_run_191 : decode cX2_run 191 = .ok (.iconst 0, 1) := by decide +kernel
theorem dX2_run_192 : decode cX2_run 192 = .ok (.ireturn, 1) := by decide +kernel
theorem dX2_run_193 : decode cX2_run 193 = .ok (.iinc 5 1, 3) := by decide +kernel
theorem dX2_run_196 : decode cX2_run 196 = .ok (.goto (-180), 3) := by decide +kernel
theorem dX2_run_199 : decode cX2_run 199 = .ok (.iconst 1, 1) := by decide +kernel
theorem dX2_run_200 : decode cX2_run 200 = .ok (.ireturn, 1) := by decide +kernel
theorem dX2_push_0 : decode cX2_push 0 = .ok (.aload_n 0, 1) := by decide +kernel
theorem dX2_push_1 : decode cX2_push 1 = .ok (.getfield 18, 3) := by decide +kernel
theorem dX2_push_4 : decode cX2_push 4 = .ok (.ifCond .lt 32, 3) := by decide +kernel
theorem dX2_push_7 : decode cX2_push 7 = .ok (.aload_n 0, 1) := by decide +kernel
theorem dX2_push_8 : decode cX2_push 8 = .ok (.getfield 18, 3) := by decide +kernel
theorem dX2_push_11 : decode cX2_push 11 = .ok (.bipush 40, 2) := by decide +kernel
theorem dX2_push_13 : decode cX2_push 13 = .ok (.if_icmp .ge 23, 3) := by decide +kernel
theorem dX2_push_16 : decode cX2_push 16 = .ok (.aload_n 0, 1) := by decide +kernel
theorem dX2_push_17 : decode cX2_push 17 = .ok (.getfield 15, 3) := by decide +kernel
theorem dX2_push_20 : decode cX2_push 20 = .ok (.aload_n 0, 1) := by decide +kernel
theorem dX2_push_21 : decode cX2_push 21 = .ok (.getfield 18, 3) := by decide +kernel
theorem dX2_push_24 : decode cX2_push 24 = .ok (.iload_n 1, 1) := by decide +kernel
theorem dX2_push_25 : decode cX2_push 25 = .ok (.iastore, 1) := by decide +kernel
theorem dX2_push_26 : decode cX2_push 26 = .ok (.aload_n 0, 1) := by decide +kernel
theorem dX2_push_27 : decode cX2_push 27 = .ok (.dup, 1) := by decide +kernel
theorem dX2_push_28 : decode cX2_push 28 = .ok (.getfield 18, 3) := by decide +kernel
theorem dX2_push_31 : decode cX2_push 31 = .ok (.iconst 1, 1) := by decide +kernel
theorem dX2_push_32 : decode cX2_push 32 = .ok (.iadd, 1) := by decide +kernel
theorem dX2_push_33 : decode cX2_push 33 = .ok (.putfield 18, 3) := by decide +kernel
theorem dX2_push_36 : decode cX2_push 36 = .ok (.return_, 1) := by decide +kernel
theorem dX2_join_0 : decode cX2_join 0 = .ok (.aload_n 0, 1) := by decide +kernel
theorem dX2_join_1 : decode cX2_join 1 = .ok (.getfield 18, 3) := by decide +kernel
theorem dX2_join_4 : decode cX2_join 4 = .ok (.iconst 2, 1) := by decide +kernel
theorem dX2_join_5 : decode cX2_join 5 = .ok (.if_icmp .lt 12, 3) := by decide +kernel
theorem dX2_join_8 : decode cX2_join 8 = .ok (.aload_n 0, 1) := by decide +kernel
theorem dX2_join_9 : decode cX2_join 9 = .ok (.getfield 18, 3) := by decide +kernel
theorem dX2_join_12 : decode cX2_join 12 = .ok (.bipush 40, 2) := by decide +kernel
theorem dX2_join_14 : decode cX2_join 14 = .ok (.if_icmp .le 5, 3) := by decide +kernel
theorem dX2_join_17 : decode cX2_join 17 = .ok (.iconst 0, 1) := by decide +kernel
theorem dX2_join_18 : decode cX2_join 18 = .ok (.ireturn, 1) := by decide +kernel
theorem dX2_join_19 : decode cX2_join 19 = .ok (.aload_n 0, 1) := by decide +kernel
theorem dX2_join_20 : decode cX2_join 20 = .ok (.getfield 15, 3) := by decide +kernel
theorem dX2_join_23 : decode cX2_join 23 = .ok (.aload_n 0, 1) := by decide +kernel
theorem dX2_join_24 : decode cX2_join 24 = .ok (.getfield 18, 3) := by decide +kernel
theorem dX2_join_27 : decode cX2_join 27 = .ok (.iconst 2, 1) := by decide +kernel
theorem dX2_join_28 : decode cX2_join 28 = .ok (.isub, 1) := by decide +kernel
theorem dX2_join_29 : decode cX2_join 29 = .ok (.iaload, 1) := by decide +kernel
theorem dX2_join_30 : decode cX2_join 30 = .ok (.istore_n 2, 1) := by decide +kernel
theorem dX2_join_31 : decode cX2_join 31 = .ok (.aload_n 0, 1) := by decide +kernel
theorem dX2_join_32 : decode cX2_join 32 = .ok (.getfield 15, 3) := by decide +kernel
theorem dX2_join_35 : decode cX2_join 35 = .ok (.aload_n 0, 1) := by decide +kernel
theorem dX2_join_36 : decode cX2_join 36 = .ok (.getfield 18, 3) := by decide +kernel
theorem dX2_join_39 : decode cX2_join 39 = .ok (.iconst 1, 1) := by decide +kernel
theorem dX2_join_40 : decode cX2_join 40 = .ok (.isub, 1) := by decide +kernel
theorem dX2_join_41 : decode cX2_join 41 = .ok (.iaload, 1) := by decide +kernel
theorem dX2_join_42 : decode cX2_join 42 = .ok (.istore_n 3, 1) := by decide +kernel
theorem dX2_join_43 : decode cX2_join 43 = .ok (.iload_n 3, 1) := by decide +kernel
theorem dX2_join_44 : decode cX2_join 44 = .ok (.ifCond .ne 16, 3) := by decide +kernel
theorem dX2_join_47 : decode cX2_join 47 = .ok (.iload_n 1, 1) := by decide +kernel
theorem dX2_join_48 : decode cX2_join 48 = .ok (.iconst 5, 1) := by decide +kernel
theorem dX2_join_49 : decode cX2_join 49 = .ok (.if_icmp .eq 9, 3) := by decide +kernel
theorem dX2_join_52 : decode cX2_join 52 = .ok (.iload_n 1, 1) := by decide +kernel
theorem dX2_join_53 : decode cX2_join 53 = .ok (.bipush 6, 2) := by decide +kernel
theorem dX2_join_55 : decode cX2_join 55 = .ok (.if_icmp .ne 5, 3) := by decide +kernel
theorem dX2_join_58 : decode cX2_join 58 = .ok (.iconst 0, 1) := by decide +kernel
theorem dX2_join_59 : decode cX2_join 59 = .ok (.ireturn, 1) := by decide +kernel
theorem dX2_join_60 : decode cX2_join 60 = .ok (.iconst 0, 1) := by decide +kernel
theorem dX2_join_61 : decode cX2_join 61 = .ok (.istore 4, 2) := by decide +kernel
theorem dX2_join_63 : decode cX2_join 63 = .ok (.iload_n 1, 1) := by decide +kernel
theorem dX2_join_64 : decode cX2_join 64 = .ok (.tableswitch 134 2 8 #[44, 52, 60, 68, 84, 100, 117], 44) := by decide +kernel
theorem dX2_join_108 : decode cX2_join 108 = .ok (.iload_n 2, 1) := by decide +kernel
theorem dX2_join_109 : decode cX2_join 109 = .ok (.iload_n 3, 1) := by decide +kernel
theorem dX2_join_110 : decode cX2_join 110 = .ok (.iadd, 1) := by decide +kernel
theorem dX2_join_111 : decode cX2_join 111 = .ok (.istore 4, 2) := by decide +kernel
theorem dX2_join_113 : decode cX2_join 113 = .ok (.goto 99, 3) := by decide +kernel
theorem dX2_join_116 : decode cX2_join 116 = .ok (.iload_n 2, 1) := by decide +kernel
theorem dX2_join_117 : decode cX2_join 117 = .ok (.iload_n 3, 1) := by decide +kernel
theorem dX2_join_118 : decode cX2_join 118 = .ok (.isub, 1) := by decide +kernel
theorem dX2_join_119 : decode cX2_join 119 = .ok (.istore 4, 2) := by decide +kernel
theorem dX2_join_121 : decode cX2_join 121 = .ok (.goto 91, 3) := by decide +kernel
theorem dX2_join_124 : decode cX2_join 124 = .ok (.iload_n 2, 1) := by decide +kernel
theorem dX2_join_125 : decode cX2_join 125 = .ok (.iload_n 3, 1) := by decide +kernel
theorem dX2_join_126 : decode cX2_join 126 = .ok (.imul, 1) := by decide +kernel
theorem dX2_join_127 : decode cX2_join 127 = .ok (.istore 4, 2) := by decide +kernel
theorem dX2_join_129 : decode cX2_join 129 = .ok (.goto 83, 3) := by decide +kernel
theorem dX2_join_132 : decode cX2_join 132 = .ok (.iload_n 3, 1) := by decide +kernel
theorem dX2_join_133 : decode cX2_join 133 = .ok (.ifCond .ne 7, 3) := by decide +kernel
theorem dX2_join_136 : decode cX2_join 136 = .ok (.iconst 0, 1) := by decide +kernel
theorem dX2_join_137 : decode cX2_join 137 = .ok (.goto 6, 3) := by decide +kernel
theorem dX2_join_140 : decode cX2_join 140 = .ok (.iload_n 2, 1) := by decide +kernel
theorem dX2_join_141 : decode cX2_join 141 = .ok (.iload_n 3, 1) := by decide +kernel
theorem dX2_join_142 : decode cX2_join 142 = .ok (.idiv, 1) := by decide +kernel
theorem dX2_join_143 : decode cX2_join 143 = .ok (.istore 4, 2) := by decide +kernel
theorem dX2_join_145 : decode cX2_join 145 = .ok (.goto 67, 3) := by decide +kernel
theorem dX2_join_148 : decode cX2_join 148 = .ok (.iload_n 3, 1) := by decide +kernel
theorem dX2_join_149 : decode cX2_join 149 = .ok (.ifCond .ne 7, 3) := by decide +kernel
theorem dX2_join_152 : decode cX2_join 152 = .ok (.iconst 0, 1) := by decide +kernel
theorem dX2_join_153 : decode cX2_join 153 = .ok (.goto 6, 3) := by decide +kernel
theorem dX2_join_156 : decode cX2_join 156 = .ok (.iload_n 2, 1) := by decide +kernel
theorem dX2_join_157 : decode cX2_join 157 = .ok (.iload_n 3, 1) := by decide +kernel
theorem dX2_join_158 : decode cX2_join 158 = .ok (.irem, 1) := by decide +kernel
theorem dX2_join_159 : decode cX2_join 159 = .ok (.istore 4, 2) := by decide +kernel
theorem dX2_join_161 : decode cX2_join 161 = .ok (.goto 51, 3) := by decide +kernel
theorem dX2_join_164 : decode cX2_join 164 = .ok (.aload_n 0, 1) := by decide +kernel
theorem dX2_join_165 : decode cX2_join 165 = .ok (.iload_n 2, 1) := by decide +kernel
theorem dX2_join_166 : decode cX2_join 166 = .ok (.iload_n 3, 1) := by decide +kernel
theorem dX2_join_167 : decode cX2_join 167 = .ok (.if_icmp .ge 7, 3) := by decide +kernel
theorem dX2_join_170 : decode cX2_join 170 = .ok (.iconst 1, 1) := by decide +kernel
theorem dX2_join_171 : decode cX2_join 171 = .ok (.goto 4, 3) := by decide +kernel
theorem dX2_join_174 : decode cX2_join 174 = .ok (.iconst 0, 1) := by decide +kernel
theorem dX2_join_175 : decode cX2_join 175 = .ok (.putfield 22, 3) := by decide +kernel
theorem dX2_join_178 : decode cX2_join 178 = .ok (.goto 34, 3) := by decide +kernel
theorem dX2_join_181 : decode cX2_join 181 = .ok (.aload_n 0, 1) := by decide +kernel
theorem dX2_join_182 : decode cX2_join 182 = .ok (.iload_n 2, 1) := by decide +kernel
theorem dX2_join_183 : decode cX2_join 183 = .ok (.iload_n 3, 1) := by decide +kernel
theorem dX2_join_184 : decode cX2_join 184 = .ok (.if_icmp .le 7, 3) := by decide +kernel
theorem dX2_join_187 : decode cX2_join 187 = .ok (.iconst 1, 1) := by decide +kernel
theorem dX2_join_188 : decode cX2_join 188 = .ok (.goto 4, 3) := by decide +kernel
theorem dX2_join_191 : decode cX2_join 191 = .ok (.iconst 0, 1) := by decide +kernel
theorem dX2_join_192 : decode cX2_join 192 = .ok (.putfield 22, 3) := by decide +kernel
theorem dX2_join_195 : decode cX2_join 195 = .ok (.goto 17, 3) := by decide +kernel
theorem dX2_join_198 : decode cX2_join 198 = .ok (.aload_n 0, 1) := by decide +kernel
theorem dX2_join_199 : decode cX2_join 199 = .ok (.iload_n 2, 1) := by decide +kernel
theorem dX2_join_200 : decode cX2_join 200 = .ok (.iload_n 3, 1) := by decide +kernel
theorem dX2_join_201 : decode cX2_join 201 = .ok (.if_icmp .ne 7, 3) := by decide +kernel
theorem dX2_join_204 : decode cX2_join 204 = .ok (.iconst 1, 1) := by decide +kernel
theorem dX2_join_205 : decode cX2_join 205 = .ok (.goto 4, 3) := by decide +kernel
theorem dX2_join_208 : decode cX2_join 208 = .ok (.iconst 0, 1) := by decide +kernel
theorem dX2_join_209 : decode cX2_join 209 = .ok (.putfield 22, 3) := by decide +kernel
theorem dX2_join_212 : decode cX2_join 212 = .ok (.aload_n 0, 1) := by decide +kernel
theorem dX2_join_213 : decode cX2_join 213 = .ok (.getfield 15, 3) := by decide +kernel
theorem dX2_join_216 : decode cX2_join 216 = .ok (.aload_n 0, 1) := by decide +kernel
theorem dX2_join_217 : decode cX2_join 217 = .ok (.getfield 18, 3) := by decide +kernel
theorem dX2_join_220 : decode cX2_join 220 = .ok (.iconst 2, 1) := by decide +kernel
theorem dX2_join_221 : decode cX2_join 221 = .ok (.isub, 1) := by decide +kernel
theorem dX2_join_222 : decode cX2_join 222 = .ok (.iload 4, 2) := by decide +kernel
theorem dX2_join_224 : decode cX2_join 224 = .ok (.iastore, 1) := by decide +kernel
theorem dX2_join_225 : decode cX2_join 225 = .ok (.aload_n 0, 1) := by decide +kernel
theorem dX2_join_226 : decode cX2_join 226 = .ok (.iload_n 1, 1) := by decide +kernel
theorem dX2_join_227 : decode cX2_join 227 = .ok (.bipush 7, 2) := by decide +kernel
theorem dX2_join_229 : decode cX2_join 229 = .ok (.if_icmp .lt 12, 3) := by decide +kernel
theorem dX2_join_232 : decode cX2_join 232 = .ok (.aload_n 0, 1) := by decide +kernel
theorem dX2_join_233 : decode cX2_join 233 = .ok (.getfield 18, 3) := by decide +kernel
theorem dX2_join_236 : decode cX2_join 236 = .ok (.iconst 2, 1) := by decide +kernel
theorem dX2_join_237 : decode cX2_join 237 = .ok (.isub, 1) := by decide +kernel
theorem dX2_join_238 : decode cX2_join 238 = .ok (.goto 9, 3) := by decide +kernel
theorem dX2_join_241 : decode cX2_join 241 = .ok (.aload_n 0, 1) := by decide +kernel
theorem dX2_join_242 : decode cX2_join 242 = .ok (.getfield 18, 3) := by decide +kernel
theorem dX2_join_245 : decode cX2_join 245 = .ok (.iconst 1, 1) := by decide +kernel
theorem dX2_join_246 : decode cX2_join 246 = .ok (.isub, 1) := by decide +kernel
theorem dX2_join_247 : decode cX2_join 247 = .ok (.putfield 18, 3) := by decide +kernel
theorem dX2_join_250 : decode cX2_join 250 = .ok (.iconst 1, 1) := by decide +kernel
theorem dX2_join_251 : decode cX2_join 251 = .ok (.ireturn, 1) := by decide +kernel
theorem dX3_init_0 : decode cX3_init 0 = .ok (.aload_n 0, 1) := by decide +kernel
theorem dX3_init_1 : decode cX3_init 1 = .ok (.invokespecial 3, 3) := by decide +kernel
theorem dX3_init_4 : decode cX3_init 4 = .ok (.aload_n 0, 1) := by decide +kernel
theorem dX3_init_5 : decode cX3_init 5 = .ok (.iconst 5, 1) := by decide +kernel
theorem dX3_init_6 : decode cX3_init 6 = .ok (.newarray .int, 2) := by decide +kernel
theorem dX3_init_8 : decode cX3_init 8 = .ok (.putfield 11, 3) := by decide +kernel
theorem dX3_init_11 : decode cX3_init 11 = .ok (.aload_n 0, 1) := by decide +kernel
theorem dX3_init_12 : decode cX3_init 12 = .ok (.iconst 5, 1) := by decide +kernel
theorem dX3_init_13 : decode cX3_init 13 = .ok (.newarray .int, 2) := by decide +kernel
theorem dX3_init_15 : decode cX3_init 15 = .ok (.putfield 15, 3) := by decide +kernel
theorem dX3_init_18 : decode cX3_init 18 = .ok (.aload_n 0, 1) := by decide +kernel
theorem dX3_init_19 : decode cX3_init 19 = .ok (.iconst 5, 1) := by decide +kernel
theorem dX3_init_20 : decode cX3_init 20 = .ok (.newarray .int, 2) := by decide +kernel
theorem dX3_init_22 : decode cX3_init 22 = .ok (.putfield 18, 3) := by decide +kernel
theorem dX3_init_25 : decode cX3_init 25 = .ok (.aload_n 0, 1) := by decide +kernel
theorem dX3_init_26 : decode cX3_init 26 = .ok (.bipush 100, 2) := by decide +kernel
theorem dX3_init_28 : decode cX3_init 28 = .ok (.newarray .int, 2) := by decide +kernel
theorem dX3_init_30 : decode cX3_init 30 = .ok (.putfield 21, 3) := by decide +kernel
theorem dX3_init_33 : decode cX3_init 33 = .ok (.aload_n 0, 1) := by decide +kernel
theorem dX3_init_34 : decode cX3_init 34 = .ok (.iconst 0, 1) := by decide +kernel
theorem dX3_init_35 : decode cX3_init 35 = .ok (.putfield 24, 3) := by decide +kernel
theorem dX3_init_38 : decode cX3_init 38 = .ok (.return_, 1) := by decide +kernel
theorem dX3_size_0 : decode cX3_size 0 = .ok (.aload_n 0, 1) := by decide +kernel
theorem dX3_size_1 : decode cX3_size 1 = .ok (.getfield 24, 3) := by decide +kernel
theorem dX3_size_4 : decode cX3_size 4 = .ok (.ireturn, 1) := by decide +kernel
theorem dX3_has_0 : decode cX3_has 0 = .ok (.iload_n 1, 1) := by decide +kernel
theorem dX3_has_1 : decode cX3_has 1 = .ok (.ifCond .lt 23, 3) := by decide +kernel
theorem dX3_has_4 : decode cX3_has 4 = .ok (.iload_n 1, 1) := by decide +kernel
theorem dX3_has_5 : decode cX3_has 5 = .ok (.aload_n 0, 1) := by decide +kernel
theorem dX3_has_6 : decode cX3_has 6 = .ok (.getfield 24, 3) := by decide +kernel
theorem dX3_has_9 : decode cX3_has 9 = .ok (.if_icmp .ge 15, 3) := by decide +kernel
theorem dX3_has_12 : decode cX3_has 12 = .ok (.aload_n 0, 1) := by decide +kernel
theorem dX3_has_13 : decode cX3_has 13 = .ok (.getfield 24, 3) := by decide +kernel
theorem dX3_has_16 : decode cX3_has 16 = .ok (.iconst 5, 1) := by decide +kernel
theorem dX3_has_17 : decode cX3_has 17 = .ok (.if_icmp .gt 7, 3) := by decide +kernel
theorem dX3_has_20 : decode cX3_has 20 = .ok (.iconst 1, 1) := by decide +kernel
theorem dX3_has_21 : decode cX3_has 21 = .ok (.goto 4, 3) := by decide +kernel
theorem dX3_has_24 : decode cX3_has 24 = .ok (.iconst 0, 1) := by decide +kernel
theorem dX3_has_25 : decode cX3_has 25 = .ok (.ireturn, 1) := by decide +kernel
theorem dX3_add_0 : decode cX3_add 0 = .ok (.aload_n 0, 1) := by decide +kernel
theorem dX3_add_1 : decode cX3_add 1 = .ok (.getfield 24, 3) := by decide +kernel
theorem dX3_add_4 : decode cX3_add 4 = .ok (.iconst 5, 1) := by decide +kernel
theorem dX3_add_5 : decode cX3_add 5 = .ok (.if_icmp .lt 5, 3) := by decide +kernel
theorem dX3_add_8 : decode cX3_add 8 = .ok (.iconst (-1), 1) := by decide +kernel
theorem dX3_add_9 : decode cX3_add 9 = .ok (.ireturn, 1) := by decide +kernel
theorem dX3_add_10 : decode cX3_add 10 = .ok (.aload_n 0, 1) := by decide +kernel
theorem dX3_add_11 : decode cX3_add 11 = .ok (.getfield 15, 3) := by decide +kernel
theorem dX3_add_14 : decode cX3_add 14 = .ok (.aload_n 0, 1) := by decide +kernel
theorem dX3_add_15 : decode cX3_add 15 = .ok (.getfield 24, 3) := by decide +kernel
theorem dX3_add_18 : decode cX3_add 18 = .ok (.iload_n 1, 1) := by decide +kernel
theorem dX3_add_19 : decode cX3_add 19 = .ok (.iastore, 1) := by decide +kernel
theorem dX3_add_20 : decode cX3_add 20 = .ok (.aload_n 0, 1) := by decide +kernel
theorem dX3_add_21 : decode cX3_add 21 = .ok (.dup, 1) := by decide +kernel
theorem dX3_add_22 : decode cX3_add 22 = .ok (.getfield 24, 3) := by decide +kernel
theorem dX3_add_25 : decode cX3_add 25 = .ok (.iconst 1, 1) := by decide +kernel
theorem dX3_add_26 : decode cX3_add 26 = .ok (.iadd, 1) := by decide +kernel
theorem dX3_add_27 : decode cX3_add 27 = .ok (.putfield 24, 3) := by decide +kernel
theorem dX3_add_30 : decode cX3_add 30 = .ok (.aload_n 0, 1) := by decide +kernel
theorem dX3_add_31 : decode cX3_add 31 = .ok (.getfield 24, 3) := by decide +kernel
theorem dX3_add_34 : decode cX3_add 34 = .ok (.iconst 1, 1) := by decide +kernel
theorem dX3_add_35 : decode cX3_add 35 = .ok (.isub, 1) := by decide +kernel
theorem dX3_add_36 : decode cX3_add 36 = .ok (.ireturn, 1) := by decide +kernel
theorem dX3_setKnown_0 : decode cX3_setKnown 0 = .ok (.aload_n 0, 1) := by decide +kernel
theorem dX3_setKnown_1 : decode cX3_setKnown 1 = .ok (.iload_n 1, 1) := by decide +kernel
theorem dX3_setKnown_2 : decode cX3_setKnown 2 = .ok (.invokevirtual 28, 3) := by decide +kernel
theorem dX3_setKnown_5 : decode cX3_setKnown 5 = .ok (.ifCond .eq 10, 3) := by decide +kernel
theorem dX3_setKnown_8 : decode cX3_setKnown 8 = .ok (.aload_n 0, 1) := by decide +kernel
theorem dX3_setKnown_9 : decode cX3_setKnown 9 = .ok (.getfield 11, 3) := by decide +kernel
theorem dX3_setKnown_12 : decode cX3_setKnown 12 = .ok (.iload_n 1, 1) := by decide +kernel
theorem dX3_setKnown_13 : decode cX3_setKnown 13 = .ok (.iload_n 2, 1) := by decide +kernel
theorem dX3_setKnown_14 : decode cX3_setKnown 14 = .ok (.iastore, 1) := by decide +kernel
theorem dX3_setKnown_15 : decode cX3_setKnown 15 = .ok (.return_, 1) := by decide +kernel
theorem dX3_knownTo_0 : decode cX3_knownTo 0 = .ok (.aload_n 0, 1) := by decide +kernel
theorem dX3_knownTo_1 : decode cX3_knownTo 1 = .ok (.iload_n 1, 1) := by decide +kernel
theorem dX3_knownTo_2 : decode cX3_knownTo 2 = .ok (.invokevirtual 28, 3) := by decide +kernel
theorem dX3_knownTo_5 : decode cX3_knownTo 5 = .ok (.ifCond .eq 12, 3) := by decide +kernel
theorem dX3_knownTo_8 : decode cX3_knownTo 8 = .ok (.aload_n 0, 1) := by decide +kernel
theorem dX3_knownTo_9 : decode cX3_knownTo 9 = .ok (.getfield 11, 3) := by decide +kernel
theorem dX3_knownTo_12 : decode cX3_knownTo 12 = .ok (.iload_n 1, 1) := by decide +kernel
theorem dX3_knownTo_13 : decode cX3_knownTo 13 = .ok (.iaload, 1) := by decide +kernel
theorem dX3_knownTo_14 : decode cX3_knownTo 14 = .ok (.goto 4, 3) := by decide +kernel
theorem dX3_knownTo_17 : decode cX3_knownTo 17 = .ok (.iconst 0, 1) := by decide +kernel
theorem dX3_knownTo_18 : decode cX3_knownTo 18 = .ok (.ireturn, 1) := by decide +kernel
theorem dX3_isKnown_0 : decode cX3_isKnown 0 = .ok (.aload_n 0, 1) := by decide +kernel
theorem dX3_isKnown_1 : decode cX3_isKnown 1 = .ok (.iload_n 1, 1) := by decide +kernel
theorem dX3_isKnown_2 : decode cX3_isKnown 2 = .ok (.invokevirtual 28, 3) := by decide +kernel
theorem dX3_isKnown_5 : decode cX3_isKnown 5 = .ok (.ifCond .eq 21, 3) := by decide +kernel
theorem dX3_isKnown_8 : decode cX3_isKnown 8 = .ok (.aload_n 0, 1) := by decide +kernel
theorem dX3_isKnown_9 : decode cX3_isKnown 9 = .ok (.getfield 11, 3) := by decide +kernel
theorem dX3_isKnown_12 : decode cX3_isKnown 12 = .ok (.iload_n 1, 1) := by decide +kernel
theorem dX3_isKnown_13 : decode cX3_isKnown 13 = .ok (.iaload, 1) := by decide +kernel
theorem dX3_isKnown_14 : decode cX3_isKnown 14 = .ok (.iload_n 2, 1) := by decide +kernel
theorem dX3_isKnown_15 : decode cX3_isKnown 15 = .ok (.ishr, 1) := by decide +kernel
theorem dX3_isKnown_16 : decode cX3_isKnown 16 = .ok (.iconst 1, 1) := by decide +kernel
theorem dX3_isKnown_17 : decode cX3_isKnown 17 = .ok (.iand, 1) := by decide +kernel
theorem dX3_isKnown_18 : decode cX3_isKnown 18 = .ok (.iconst 1, 1) := by decide +kernel
theorem dX3_isKnown_19 : decode cX3_isKnown 19 = .ok (.if_icmp .ne 7, 3) := by decide +kernel
theorem dX3_isKnown_22 : decode cX3_isKnown 22 = .ok (.iconst 1, 1) := by decide +kernel
theorem dX3_isKnown_23 : decode cX3_isKnown 23 = .ok (.goto 4, 3) := by decide +kernel
theorem dX3_isKnown_26 : decode cX3_isKnown 26 = .ok (.iconst 0, 1) := by decide +kernel
theorem dX3_isKnown_27 : decode cX3_isKnown 27 = .ok (.ireturn, 1) := by decide +kernel
theorem dX3_knowersOf_0 : decode cX3_knowersOf 0 = .ok (.iconst 0, 1) := by decide +kernel
theorem dX3_knowersOf_1 : decode cX3_knowersOf 1 = .ok (.istore_n 2, 1) := by decide +kernel
theorem dX3_knowersOf_2 : decode cX3_knowersOf 2 = .ok (.iconst 0, 1) := by decide +kernel
theorem dX3_knowersOf_3 : decode cX3_knowersOf 3 = .ok (.istore_n 3, 1) := by decide +kernel
theorem dX3_knowersOf_4 : decode cX3_knowersOf 4 = .ok (.iload_n 3, 1) := by decide +kernel
theorem dX3_knowersOf_5 : decode cX3_knowersOf 5 = .ok (.aload_n 0, 1) := by decide +kernel
theorem dX3_knowersOf_6 : decode cX3_knowersOf 6 = .ok (.getfield 24, 3) := by decide +kernel
theorem dX3_knowersOf_9 : decode cX3_knowersOf 9 = .ok (.if_icmp .ge 21, 3) := by decide +kernel
theorem dX3_knowersOf_12 : decode cX3_knowersOf 12 = .ok (.aload_n 0, 1) := by decide +kernel
theorem dX3_knowersOf_13 : decode cX3_knowersOf 13 = .ok (.iload_n 3, 1) := by decide +kernel
theorem dX3_knowersOf_14 : decode cX3_knowersOf 14 = .ok (.iload_n 1, 1) := by decide +kernel
theorem dX3_knowersOf_15 : decode cX3_knowersOf 15 = .ok (.invokevirtual 32, 3) := by decide +kernel
theorem dX3_knowersOf_18 : decode cX3_knowersOf 18 = .ok (.ifCond .eq 6, 3) := by decide +kernel
theorem dX3_knowersOf_21 : decode cX3_knowersOf 21 = .ok (.iinc 2 1, 3) := by decide +kernel
theorem dX3_knowersOf_24 : decode cX3_knowersOf 24 = .ok (.iinc 3 1, 3) := by decide +kernel
theorem dX3_knowersOf_27 : decode cX3_knowersOf 27 = .ok (.goto (-23), 3) := by decide +kernel
theorem dX3_knowersOf_30 : decode cX3_knowersOf 30 = .ok (.iload_n 2, 1) := by decide +kernel
theorem dX3_knowersOf_31 : decode cX3_knowersOf 31 = .ok (.ireturn, 1) := by decide +kernel
theorem dX3_placeOf_0 : decode cX3_placeOf 0 = .ok (.iload_n 0, 1) := by decide +kernel
theorem dX3_placeOf_1 : decode cX3_placeOf 1 = .ok (.bipush 10, 2) := by decide +kernel
theorem dX3_placeOf_3 : decode cX3_placeOf 3 = .ok (.imul, 1) := by decide +kernel
theorem dX3_placeOf_4 : decode cX3_placeOf 4 = .ok (.iload_n 1, 1) := by decide +kernel
theorem dX3_placeOf_5 : decode cX3_placeOf 5 = .ok (.iadd, 1) := by decide +kernel
theorem dX3_placeOf_6 : decode cX3_placeOf 6 = .ok (.iconst 2, 1) := by decide +kernel
theorem dX3_placeOf_7 : decode cX3_placeOf 7 = .ok (.imul, 1) := by decide +kernel
theorem dX3_placeOf_8 : decode cX3_placeOf 8 = .ok (.iload_n 2, 1) := by decide +kernel
theorem dX3_placeOf_9 : decode cX3_placeOf 9 = .ok (.iadd, 1) := by decide +kernel
theorem dX3_placeOf_10 : decode cX3_placeOf 10 = .ok (.ireturn, 1) := by decide +kernel
theorem dX3_setHurt_0 : decode cX3_setHurt 0 = .ok (.iload_n 1, 1) := by decide +kernel
theorem dX3_setHurt_1 : decode cX3_setHurt 1 = .ok (.iload_n 2, 1) := by decide +kernel
theorem dX3_setHurt_2 : decode cX3_setHurt 2 = .ok (.iload_n 3, 1) := by decide +kernel
theorem dX3_setHurt_3 : decode cX3_setHurt 3 = .ok (.invokestatic 36, 3) := by decide +kernel
theorem dX3_setHurt_6 : decode cX3_setHurt 6 = .ok (.istore 5, 2) := by decide +kernel
theorem dX3_setHurt_8 : decode cX3_setHurt 8 = .ok (.iload 5, 2) := by decide +kernel
theorem dX3_setHurt_10 : decode cX3_setHurt 10 = .ok (.ifCond .lt 22, 3) := by decide +kernel
theorem dX3_setHurt_13 : decode cX3_setHurt 13 = .ok (.iload 5, 2) := by decide +kernel
theorem dX3_setHurt_15 : decode cX3_setHurt 15 = .ok (.aload_n 0, 1) := by decide +kernel
theorem dX3_setHurt_16 : decode cX3_setHurt 16 = .ok (.getfield 21, 3) := by decide +kernel
theorem dX3_setHurt_19 : decode cX3_setHurt 19 = .ok (.arraylength, 1) := by decide +kernel
theorem dX3_setHurt_20 : decode cX3_setHurt 20 = .ok (.if_icmp .ge 12, 3) := by decide +kernel
theorem dX3_setHurt_23 : decode cX3_setHurt 23 = .ok (.aload_n 0, 1) := by decide +kernel
theorem dX3_setHurt_24 : decode cX3_setHurt 24 = .ok (.getfield 21, 3) := by decide +kernel
theorem dX3_setHurt_27 : decode cX3_setHurt 27 = .ok (.iload 5, 2) := by decide +kernel
theorem dX3_setHurt_29 : decode cX3_setHurt 29 = .ok (.iload 4, 2) := by decide +kernel
theorem dX3_setHurt_31 : decode cX3_setHurt 31 = .ok (.iastore, 1) := by decide +kernel
theorem dX3_setHurt_32 : decode cX3_setHurt 32 = .ok (.return_, 1) := by decide +kernel
theorem dX3_hurtOf_0 : decode cX3_hurtOf 0 = .ok (.iload_n 1, 1) := by decide +kernel
theorem dX3_hurtOf_1 : decode cX3_hurtOf 1 = .ok (.iload_n 2, 1) := by decide +kernel
theorem dX3_hurtOf_2 : decode cX3_hurtOf 2 = .ok (.iload_n 3, 1) := by decide +kernel
theorem dX3_hurtOf_3 : decode cX3_hurtOf 3 = .ok (.invokestatic 36, 3) := by decide +kernel
theorem dX3_hurtOf_6 : decode cX3_hurtOf 6 = .ok (.istore 4, 2) := by decide +kernel
theorem dX3_hurtOf_8 : decode cX3_hurtOf 8 = .ok (.iload 4, 2) := by decide +kernel
theorem dX3_hurtOf_10 : decode cX3_hurtOf 10 = .ok (.ifCond .lt 23, 3) := by decide +kernel
theorem dX3_hurtOf_13 : decode cX3_hurtOf 13 = .ok (.iload 4, 2) := by decide +kernel
theorem dX3_hurtOf_15 : decode cX3_hurtOf 15 = .ok (.aload_n 0, 1) := by decide +kernel
theorem dX3_hurtOf_16 : decode cX3_hurtOf 16 = .ok (.getfield 21, 3) := by decide +kernel
theorem dX3_hurtOf_19 : decode cX3_hurtOf 19 = .ok (.arraylength, 1) := by decide +kernel
theorem dX3_hurtOf_20 : decode cX3_hurtOf 20 = .ok (.if_icmp .ge 13, 3) := by decide +kernel
theorem dX3_hurtOf_23 : decode cX3_hurtOf 23 = .ok (.aload_n 0, 1) := by decide +kernel
theorem dX3_hurtOf_24 : decode cX3_hurtOf 24 = .ok (.getfield 21, 3) := by decide +kernel
theorem dX3_hurtOf_27 : decode cX3_hurtOf 27 = .ok (.iload 4, 2) := by decide +kernel
theorem dX3_hurtOf_29 : decode cX3_hurtOf 29 = .ok (.iaload, 1) := by decide +kernel
theorem dX3_hurtOf_30 : decode cX3_hurtOf 30 = .ok (.goto 4, 3) := by decide +kernel
theorem dX3_hurtOf_33 : decode cX3_hurtOf 33 = .ok (.iconst 0, 1) := by decide +kernel
theorem dX3_hurtOf_34 : decode cX3_hurtOf 34 = .ok (.ireturn, 1) := by decide +kernel
theorem dX3_silenceOf_0 : decode cX3_silenceOf 0 = .ok (.aload_n 0, 1) := by decide +kernel
theorem dX3_silenceOf_1 : decode cX3_silenceOf 1 = .ok (.iload_n 1, 1) := by decide +kernel
theorem dX3_silenceOf_2 : decode cX3_silenceOf 2 = .ok (.invokevirtual 28, 3) := by decide +kernel
theorem dX3_silenceOf_5 : decode cX3_silenceOf 5 = .ok (.ifCond .eq 12, 3) := by decide +kernel
theorem dX3_silenceOf_8 : decode cX3_silenceOf 8 = .ok (.aload_n 0, 1) := by decide +kernel
theorem dX3_silenceOf_9 : decode cX3_silenceOf 9 = .ok (.getfield 15, 3) := by decide +kernel
theorem dX3_silenceOf_12 : decode cX3_silenceOf 12 = .ok (.iload_n 1, 1) := by decide +kernel
theorem dX3_silenceOf_13 : decode cX3_silenceOf 13 = .ok (.iaload, 1) := by decide +kernel
theorem dX3_silenceOf_14 : decode cX3_silenceOf 14 = .ok (.goto 4, 3) := by decide +kernel
theorem dX3_silenceOf_17 : decode cX3_silenceOf 17 = .ok (.iconst 0, 1) := by decide +kernel
theorem dX3_silenceOf_18 : decode cX3_silenceOf 18 = .ok (.ireturn, 1) := by decide +kernel
theorem dX3_spentBy_0 : decode cX3_spentBy 0 = .ok (.aload_n 0, 1) := by decide +kernel
theorem dX3_spentBy_1 : decode cX3_spentBy 1 = .ok (.iload_n 1, 1) := by decide +kernel
theorem dX3_spentBy_2 : decode cX3_spentBy 2 = .ok (.invokevirtual 28, 3) := by decide +kernel
theorem dX3_spentBy_5 : decode cX3_spentBy 5 = .ok (.ifCond .eq 12, 3) := by decide +kernel
theorem dX3_spentBy_8 : decode cX3_spentBy 8 = .ok (.aload_n 0, 1) := by decide +kernel
theorem dX3_spentBy_9 : decode cX3_spentBy 9 = .ok (.getfield 18, 3) := by decide +kernel
theorem dX3_spentBy_12 : decode cX3_spentBy 12 = .ok (.iload_n 1, 1) := by decide +kernel
theorem dX3_spentBy_13 : decode cX3_spentBy 13 = .ok (.iaload, 1) := by decide +kernel
theorem dX3_spentBy_14 : decode cX3_spentBy 14 = .ok (.goto 4, 3) := by decide +kernel
theorem dX3_spentBy_17 : decode cX3_spentBy 17 = .ok (.iconst 0, 1) := by decide +kernel
theorem dX3_spentBy_18 : decode cX3_spentBy 18 = .ok (.ireturn, 1) := by decide +kernel
theorem dX3_pay_0 : decode cX3_pay 0 = .ok (.aload_n 0, 1) := by decide +kernel
theorem dX3_pay_1 : decode cX3_pay 1 = .ok (.iload_n 1, 1) := by decide +kernel
theorem dX3_pay_2 : decode cX3_pay 2 = .ok (.invokevirtual 28, 3) := by decide +kernel
theorem dX3_pay_5 : decode cX3_pay 5 = .ok (.ifCond .eq 13, 3) := by decide +kernel
theorem dX3_pay_8 : decode cX3_pay 8 = .ok (.aload_n 0, 1) := by decide +kernel
theorem dX3_pay_9 : decode cX3_pay 9 = .ok (.getfield 18, 3) := by decide +kernel
theorem dX3_pay_12 : decode cX3_pay 12 = .ok (.iload_n 1, 1) := by decide +kernel
theorem dX3_pay_13 : decode cX3_pay 13 = .ok (.dup2, 1) := by decide +kernel
theorem dX3_pay_14 : decode cX3_pay 14 = .ok (.iaload, 1) := by decide +kernel
theorem dX3_pay_15 : decode cX3_pay 15 = .ok (.iload_n 2, 1) := by decide +kernel
theorem dX3_pay_16 : decode cX3_pay 16 = .ok (.iadd, 1) := by decide +kernel
theorem dX3_pay_17 : decode cX3_pay 17 = .ok (.iastore, 1) := by decide +kernel
theorem dX3_pay_18 : decode cX3_pay 18 = .ok (.return_, 1) := by decide +kernel
theorem dX3_clearSpent_0 : decode cX3_clearSpent 0 = .ok (.iconst 0, 1) := by decide +kernel
theorem dX3_clearSpent_1 : decode cX3_clearSpent 1 = .ok (.istore_n 1, 1) := by decide +kernel
theorem dX3_clearSpent_2 : decode cX3_clearSpent 2 = .ok (.iload_n 1, 1) := by decide +kernel
theorem dX3_clearSpent_3 : decode cX3_clearSpent 3 = .ok (.iconst 5, 1) := by decide +kernel
theorem dX3_clearSpent_4 : decode cX3_clearSpent 4 = .ok (.if_icmp .ge 16, 3) := by decide +kernel
theorem dX3_clearSpent_7 : decode cX3_clearSpent 7 = .ok (.aload_n 0, 1) := by decide +kernel
theorem dX3_clearSpent_8 : decode cX3_clearSpent 8 = .ok (.getfield 18, 3) := by decide +kernel
theorem dX3_clearSpent_11 : decode cX3_clearSpent 11 = .ok (.iload_n 1, 1) := by decide +kernel
theorem dX3_clearSpent_12 : decode cX3_clearSpent 12 = .ok (.iconst 0, 1) := by decide +kernel
theorem dX3_clearSpent_13 : decode cX3_clearSpent 13 = .ok (.iastore, 1) := by decide +kernel
theorem dX3_clearSpent_14 : decode cX3_clearSpent 14 = .ok (.iinc 1 1, 3) := by decide +kernel
theorem dX3_clearSpent_17 : decode cX3_clearSpent 17 = .ok (.goto (-15), 3) := by decide +kernel
theorem dX3_clearSpent_20 : decode cX3_clearSpent 20 = .ok (.return_, 1) := by decide +kernel
theorem dX4_init_0 : decode cX4_init 0 = .ok (.aload_n 0, 1) := by decide +kernel
theorem dX4_init_1 : decode cX4_init 1 = .ok (.invokespecial 3, 3) := by decide +kernel
theorem dX4_init_4 : decode cX4_init 4 = .ok (.aload_n 0, 1) := by decide +kernel
theorem dX4_init_5 : decode cX4_init 5 = .ok (.sipush 1231, 3) := by decide +kernel
theorem dX4_init_8 : decode cX4_init 8 = .ok (.newarray .long, 2) := by decide +kernel
theorem dX4_init_10 : decode cX4_init 10 = .ok (.putfield 11, 3) := by decide +kernel
theorem dX4_init_13 : decode cX4_init 13 = .ok (.aload_n 0, 1) := by decide +kernel
theorem dX4_init_14 : decode cX4_init 14 = .ok (.bipush 9, 2) := by decide +kernel
theorem dX4_init_16 : decode cX4_init 16 = .ok (.newarray .int, 2) := by decide +kernel
theorem dX4_init_18 : decode cX4_init 18 = .ok (.putfield 15, 3) := by decide +kernel
theorem dX4_init_21 : decode cX4_init 21 = .ok (.aload_n 0, 1) := by decide +kernel
theorem dX4_init_22 : decode cX4_init 22 = .ok (.bipush 9, 2) := by decide +kernel
theorem dX4_init_24 : decode cX4_init 24 = .ok (.newarray .int, 2) := by decide +kernel
theorem dX4_init_26 : decode cX4_init 26 = .ok (.putfield 19, 3) := by decide +kernel
theorem dX4_init_29 : decode cX4_init 29 = .ok (.aload_n 0, 1) := by decide +kernel
theorem dX4_init_30 : decode cX4_init 30 = .ok (.iconst 0, 1) := by decide +kernel
theorem dX4_init_31 : decode cX4_init 31 = .ok (.putfield 22, 3) := by decide +kernel
theorem dX4_init_34 : decode cX4_init 34 = .ok (.return_, 1) := by decide +kernel
theorem dX4_states_0 : decode cX4_states 0 = .ok (.aload_n 0, 1) := by decide +kernel
theorem dX4_states_1 : decode cX4_states 1 = .ok (.getfield 22, 3) := by decide +kernel
theorem dX4_states_4 : decode cX4_states 4 = .ok (.ifCond .lt 25, 3) := by decide +kernel
theorem dX4_states_7 : decode cX4_states 7 = .ok (.aload_n 0, 1) := by decide +kernel
theorem dX4_states_8 : decode cX4_states 8 = .ok (.getfield 22, 3) := by decide +kernel
theorem dX4_states_11 : decode cX4_states 11 = .ok (.getstatic 26, 3) := by decide +kernel
theorem dX4_states_14 : decode cX4_states 14 = .ok (.arraylength, 1) := by decide +kernel
theorem dX4_states_15 : decode cX4_states 15 = .ok (.if_icmp .ge 14, 3) := by decide +kernel
theorem dX4_states_18 : decode cX4_states 18 = .ok (.getstatic 26, 3) := by decide +kernel
theorem dX4_states_21 : decode cX4_states 21 = .ok (.aload_n 0, 1) := by decide +kernel
theorem dX4_states_22 : decode cX4_states 22 = .ok (.getfield 22, 3) := by decide +kernel
theorem dX4_states_25 : decode cX4_states 25 = .ok (.iaload, 1) := by decide +kernel
theorem dX4_states_26 : decode cX4_states 26 = .ok (.goto 4, 3) := by decide +kernel
theorem dX4_states_29 : decode cX4_states 29 = .ok (.iconst 1, 1) := by decide +kernel
theorem dX4_states_30 : decode cX4_states 30 = .ok (.ireturn, 1) := by decide +kernel
theorem dX4_markOf_0 : decode cX4_markOf 0 = .ok (.iload_n 1, 1) := by decide +kernel
theorem dX4_markOf_1 : decode cX4_markOf 1 = .ok (.iconst 4, 1) := by decide +kernel
theorem dX4_markOf_2 : decode cX4_markOf 2 = .ok (.ishr, 1) := by decide +kernel
theorem dX4_markOf_3 : decode cX4_markOf 3 = .ok (.istore_n 2, 1) := by decide +kernel
theorem dX4_markOf_4 : decode cX4_markOf 4 = .ok (.iload_n 1, 1) := by decide +kernel
theorem dX4_markOf_5 : decode cX4_markOf 5 = .ok (.ifCond .lt 12, 3) := by decide +kernel
theorem dX4_markOf_8 : decode cX4_markOf 8 = .ok (.iload_n 2, 1) := by decide +kernel
theorem dX4_markOf_9 : decode cX4_markOf 9 = .ok (.aload_n 0, 1) := by decide +kernel
theorem dX4_markOf_10 : decode cX4_markOf 10 = .ok (.getfield 11, 3) := by decide +kernel
theorem dX4_markOf_13 : decode cX4_markOf 13 = .ok (.arraylength, 1) := by decide +kernel
theorem dX4_markOf_14 : decode cX4_markOf 14 = .ok (.if_icmp .lt 5, 3) := by decide +kernel
theorem dX4_markOf_17 : decode cX4_markOf 17 = .ok (.iconst 0, 1) := by decide +kernel
theorem dX4_markOf_18 : decode cX4_markOf 18 = .ok (.ireturn, 1) := by decide +kernel
theorem dX4_markOf_19 : decode cX4_markOf 19 = .ok (.aload_n 0, 1) := by decide +kernel
theorem dX4_markOf_20 : decode cX4_markOf 20 = .ok (.getfield 11, 3) := by decide +kernel
theorem dX4_markOf_23 : decode cX4_markOf 23 = .ok (.iload_n 2, 1) := by decide +kernel
theorem dX4_markOf_24 : decode cX4_markOf 24 = .ok (.laload, 1) := by decide +kernel
theorem dX4_markOf_25 : decode cX4_markOf 25 = .ok (.iconst 4, 1) := by decide +kernel
theorem dX4_markOf_26 : decode cX4_markOf 26 = .ok (.iload_n 1, 1) := by decide +kernel
theorem dX4_markOf_27 : decode cX4_markOf 27 = .ok (.bipush 15, 2) := by decide +kernel
theorem dX4_markOf_29 : decode cX4_markOf 29 = .ok (.iand, 1) := by decide +kernel
theorem dX4_markOf_30 : decode cX4_markOf 30 = .ok (.imul, 1) := by decide +kernel
theorem dX4_markOf_31 : decode cX4_markOf 31 = .ok (.lushr, 1) := by decide +kernel
theorem dX4_markOf_32 : decode cX4_markOf 32 = .ok (.l2i, 1) := by decide +kernel
theorem dX4_markOf_33 : decode cX4_markOf 33 = .ok (.bipush 15, 2) := by decide +kernel
theorem dX4_markOf_35 : decode cX4_markOf 35 = .ok (.iand, 1) := by decide +kernel
theorem dX4_markOf_36 : decode cX4_markOf 36 = .ok (.ireturn, 1) := by decide +kernel
theorem dX4_addMark_0 : decode cX4_addMark 0 = .ok (.iload_n 1, 1) := by decide +kernel
theorem dX4_addMark_1 : decode cX4_addMark 1 = .ok (.iconst 4, 1) := by decide +kernel
theorem dX4_addMark_2 : decode cX4_addMark 2 = .ok (.ishr, 1) := by decide +kernel
theorem dX4_addMark_3 : decode cX4_addMark 3 = .ok (.istore_n 3, 1) := by decide +kernel
theorem dX4_addMark_4 : decode cX4_addMark 4 = .ok (.iload_n 1, 1) := by decide +kernel
theorem dX4_addMark_5 : decode cX4_addMark 5 = .ok (.ifCond .lt 30, 3) := by decide +kernel
theorem dX4_addMark_8 : decode cX4_addMark 8 = .ok (.iload_n 3, 1) := by decide +kernel
theorem dX4_addMark_9 : decode cX4_addMark 9 = .ok (.aload_n 0, 1) := by decide +kernel
theorem dX4_addMark_10 : decode cX4_addMark 10 = .ok (.getfield 11, 3) := by decide +kernel
theorem dX4_addMark_13 : decode cX4_addMark 13 = .ok (.arraylength, 1) := by decide +kernel
theorem dX4_addMark_14 : decode cX4_addMark 14 = .ok (.if_icmp .ge 21, 3) := by decide +kernel
theorem dX4_addMark_17 : decode cX4_addMark 17 = .ok (.aload_n 0, 1) := by decide +kernel
theorem dX4_addMark_18 : decode cX4_addMark 18 = .ok (.getfield 11, 3) := by decide +kernel
theorem dX4_addMark_21 : decode cX4_addMark 21 = .ok (.iload_n 3, 1) := by decide +kernel
theorem dX4_addMark_22 : decode cX4_addMark 22 = .ok (.dup2, 1) := by decide +kernel
theorem dX4_addMark_23 : decode cX4_addMark 23 = .ok (.laload, 1) := by decide +kernel
theorem dX4_addMark_24 : decode cX4_addMark 24 = .ok (.iload_n 2, 1) := by decide +kernel
theorem dX4_addMark_25 : decode cX4_addMark 25 = .ok (.i2l, 1) := by decide +kernel
theorem dX4_addMark_26 : decode cX4_addMark 26 = .ok (.iconst 4, 1) := by decide +kernel
theorem dX4_addMark_27 : decode cX4_addMark 27 = .ok (.iload_n 1, 1) := by decide +kernel
theorem dX4_addMark_28 : decode cX4_addMark 28 = .ok (.bipush 15, 2) := by decide +kernel
theorem dX4_addMark_30 : decode cX4_addMark 30 = .ok (.iand, 1) := by decide +kernel
theorem dX4_addMark_31 : decode cX4_addMark 31 = .ok (.imul, 1) := by decide +kernel
theorem dX4_addMark_32 : decode cX4_addMark 32 = .ok (.lshl, 1) := by decide +kernel
theorem dX4_addMark_33 : decode cX4_addMark 33 = .ok (.lor, 1) := by decide +kernel
theorem dX4_addMark_34 : decode cX4_addMark 34 = .ok (.lastore, 1) := by decide +kernel
theorem dX4_addMark_35 : decode cX4_addMark 35 = .ok (.return_, 1) := by decide +kernel
theorem dX4_lay_0 : decode cX4_lay 0 = .ok (.aload_n 0, 1) := by decide +kernel
theorem dX4_lay_1 : decode cX4_lay 1 = .ok (.aload_n 1, 1) := by decide +kernel
theorem dX4_lay_2 : decode cX4_lay 2 = .ok (.iload_n 2, 1) := by decide +kernel
theorem dX4_lay_3 : decode cX4_lay 3 = .ok (.iload 4, 2) := by decide +kernel
theorem dX4_lay_5 : decode cX4_lay 5 = .ok (.invokevirtual 29, 3) := by decide +kernel
theorem dX4_lay_8 : decode cX4_lay 8 = .ok (.iconst 0, 1) := by decide +kernel
theorem dX4_lay_9 : decode cX4_lay 9 = .ok (.istore 5, 2) := by decide +kernel
theorem dX4_lay_11 : decode cX4_lay 11 = .ok (.iload 5, 2) := by decide +kernel
theorem dX4_lay_13 : decode cX4_lay 13 = .ok (.aload_n 0, 1) := by decide +kernel
theorem dX4_lay_14 : decode cX4_lay 14 = .ok (.invokevirtual 33, 3) := by decide +kernel
theorem dX4_lay_17 : decode cX4_lay 17 = .ok (.iconst 4, 1) := by decide +kernel
theorem dX4_lay_18 : decode cX4_lay 18 = .ok (.ishr, 1) := by decide +kernel
theorem dX4_lay_19 : decode cX4_lay 19 = .ok (.if_icmp .gt 27, 3) := by decide +kernel
theorem dX4_lay_22 : decode cX4_lay 22 = .ok (.iload 5, 2) := by decide +kernel
theorem dX4_lay_24 : decode cX4_lay 24 = .ok (.aload_n 0, 1) := by decide +kernel
theorem dX4_lay_25 : decode cX4_lay 25 = .ok (.getfield 11, 3) := by decide +kernel
theorem dX4_lay_28 : decode cX4_lay 28 = .ok (.arraylength, 1) := by decide +kernel
theorem dX4_lay_29 : decode cX4_lay 29 = .ok (.if_icmp .ge 17, 3) := by decide +kernel
theorem dX4_lay_32 : decode cX4_lay 32 = .ok (.aload_n 0, 1) := by decide +kernel
theorem dX4_lay_33 : decode cX4_lay 33 = .ok (.getfield 11, 3) := by decide +kernel
theorem dX4_lay_36 : decode cX4_lay 36 = .ok (.iload 5, 2) := by decide +kernel
theorem dX4_lay_38 : decode cX4_lay 38 = .ok (.lconst 0, 1) := by decide +kernel
theorem dX4_lay_39 : decode cX4_lay 39 = .ok (.lastore, 1) := by decide +kernel
theorem dX4_lay_40 : decode cX4_lay 40 = .ok (.iinc 5 1, 3) := by decide +kernel
theorem dX4_lay_43 : decode cX4_lay 43 = .ok (.goto (-32), 3) := by decide +kernel
theorem dX4_lay_46 : decode cX4_lay 46 = .ok (.iconst 0, 1) := by decide +kernel
theorem dX4_lay_47 : decode cX4_lay 47 = .ok (.istore 5, 2) := by decide +kernel
theorem dX4_lay_49 : decode cX4_lay 49 = .ok (.iload 5, 2) := by decide +kernel
theorem dX4_lay_51 : decode cX4_lay 51 = .ok (.iconst 1, 1) := by decide +kernel
theorem dX4_lay_52 : decode cX4_lay 52 = .ok (.iload 4, 2) := by decide +kernel
theorem dX4_lay_54 : decode cX4_lay 54 = .ok (.ishl, 1) := by decide +kernel
theorem dX4_lay_55 : decode cX4_lay 55 = .ok (.if_icmp .ge 36, 3) := by decide +kernel
theorem dX4_lay_58 : decode cX4_lay 58 = .ok (.aload_n 1, 1) := by decide +kernel
theorem dX4_lay_59 : decode cX4_lay 59 = .ok (.iload 5, 2) := by decide +kernel
theorem dX4_lay_61 : decode cX4_lay 61 = .ok (.invokevirtual 37, 3) := by decide +kernel
theorem dX4_lay_64 : decode cX4_lay 64 = .ok (.ifCond .eq 21, 3) := by decide +kernel
theorem dX4_lay_67 : decode cX4_lay 67 = .ok (.aload_n 0, 1) := by decide +kernel
theorem dX4_lay_68 : decode cX4_lay 68 = .ok (.aload_n 0, 1) := by decide +kernel
theorem dX4_lay_69 : decode cX4_lay 69 = .ok (.iload 5, 2) := by decide +kernel
theorem dX4_lay_71 : decode cX4_lay 71 = .ok (.invokevirtual 43, 3) := by decide +kernel
theorem dX4_lay_74 : decode cX4_lay 74 = .ok (.iconst 1, 1) := by decide +kernel
theorem dX4_lay_75 : decode cX4_lay 75 = .ok (.iload 5, 2) := by decide +kernel
theorem dX4_lay_77 : decode cX4_lay 77 = .ok (.iload_n 3, 1) := by decide +kernel
theorem dX4_lay_78 : decode cX4_lay 78 = .ok (.ishr, 1) := by decide +kernel
theorem dX4_lay_79 : decode cX4_lay 79 = .ok (.iconst 1, 1) := by decide +kernel
theorem dX4_lay_80 : decode cX4_lay 80 = .ok (.iand, 1) := by decide +kernel
theorem dX4_lay_81 : decode cX4_lay 81 = .ok (.ishl, 1) := by decide +kernel
theorem dX4_lay_82 : decode cX4_lay 82 = .ok (.invokevirtual 47, 3) := by decide +kernel
theorem dX4_lay_85 : decode cX4_lay 85 = .ok (.iinc 5 1, 3) := by decide +kernel
theorem dX4_lay_88 : decode cX4_lay 88 = .ok (.goto (-39), 3) := by decide +kernel
theorem dX4_lay_91 : decode cX4_lay 91 = .ok (.iconst 0, 1) := by decide +kernel
theorem dX4_lay_92 : decode cX4_lay 92 = .ok (.istore 5, 2) := by decide +kernel
theorem dX4_lay_94 : decode cX4_lay 94 = .ok (.iload 5, 2) := by decide +kernel
theorem dX4_lay_96 : decode cX4_lay 96 = .ok (.aload_n 0, 1) := by decide +kernel
theorem dX4_lay_97 : decode cX4_lay 97 = .ok (.getfield 22, 3) := by decide +kernel
theorem dX4_lay_100 : decode cX4_lay 100 = .ok (.if_icmp .ge 17, 3) := by decide +kernel
theorem dX4_lay_103 : decode cX4_lay 103 = .ok (.aload_n 0, 1) := by decide +kernel
theorem dX4_lay_104 : decode cX4_lay 104 = .ok (.getfield 19, 3) := by decide +kernel
theorem dX4_lay_107 : decode cX4_lay 107 = .ok (.iload 5, 2) := by decide +kernel
theorem dX4_lay_109 : decode cX4_lay 109 = .ok (.iconst 0, 1) := by decide +kernel
theorem dX4_lay_110 : decode cX4_lay 110 = .ok (.iastore, 1) := by decide +kernel
theorem dX4_lay_111 : decode cX4_lay 111 = .ok (.iinc 5 1, 3) := by decide +kernel
theorem dX4_lay_114 : decode cX4_lay 114 = .ok (.goto (-20), 3) := by decide +kernel
theorem dX4_lay_117 : decode cX4_lay 117 = .ok (.iconst 0, 1) := by decide +kernel
theorem dX4_lay_118 : decode cX4_lay 118 = .ok (.istore 5, 2) := by decide +kernel
theorem dX4_lay_120 : decode cX4_lay 120 = .ok (.iload 5, 2) := by decide +kernel
theorem dX4_lay_122 : decode cX4_lay 122 = .ok (.aload_n 0, 1) := by decide +kernel
theorem dX4_lay_123 : decode cX4_lay 123 = .ok (.invokevirtual 33, 3) := by decide +kernel
theorem dX4_lay_126 : decode cX4_lay 126 = .ok (.if_icmp .ge 25, 3) := by decide +kernel
theorem dX4_lay_129 : decode cX4_lay 129 = .ok (.aload_n 0, 1) := by decide +kernel
theorem dX4_lay_130 : decode cX4_lay 130 = .ok (.iload 5, 2) := by decide +kernel
theorem dX4_lay_132 : decode cX4_lay 132 = .ok (.aload_n 0, 1) := by decide +kernel
theorem dX4_lay_133 : decode cX4_lay 133 = .ok (.iload 5, 2) := by decide +kernel
theorem dX4_lay_135 : decode cX4_lay 135 = .ok (.invokevirtual 51, 3) := by decide +kernel
theorem dX4_lay_138 : decode cX4_lay 138 = .ok (.invokevirtual 47, 3) := by decide +kernel
theorem dX4_lay_141 : decode cX4_lay 141 = .ok (.aload_n 0, 1) := by decide +kernel
theorem dX4_lay_142 : decode cX4_lay 142 = .ok (.invokevirtual 54, 3) := by decide +kernel
theorem dX4_lay_145 : decode cX4_lay 145 = .ok (.iinc 5 1, 3) := by decide +kernel
theorem dX4_lay_148 : decode cX4_lay 148 = .ok (.goto (-28), 3) := by decide +kernel
theorem dX4_lay_151 : decode cX4_lay 151 = .ok (.return_, 1) := by decide +kernel
theorem dX4_choose_0 : decode cX4_choose 0 = .ok (.aload_n 0, 1) := by decide +kernel
theorem dX4_choose_1 : decode cX4_choose 1 = .ok (.iconst 0, 1) := by decide +kernel
theorem dX4_choose_2 : decode cX4_choose 2 = .ok (.putfield 22, 3) := by decide +kernel
theorem dX4_choose_5 : decode cX4_choose 5 = .ok (.iconst 0, 1) := by decide +kernel
theorem dX4_choose_6 : decode cX4_choose 6 = .ok (.istore 4, 2) := by decide +kernel
theorem dX4_choose_8 : decode cX4_choose 8 = .ok (.iload 4, 2) := by decide +kernel
theorem dX4_choose_10 : decode cX4_choose 10 = .ok (.iload_n 3, 1) := by decide +kernel
theorem dX4_choose_11 : decode cX4_choose 11 = .ok (.if_icmp .ge 69, 3) := by decide +kernel
theorem dX4_choose_14 : decode cX4_choose 14 = .ok (.aload_n 0, 1) := by decide +kernel
theorem dX4_choose_15 : decode cX4_choose 15 = .ok (.getfield 22, 3) := by decide +kernel
theorem dX4_choose_18 : decode cX4_choose 18 = .ok (.bipush 9, 2) := by decide +kernel
theorem dX4_choose_20 : decode cX4_choose 20 = .ok (.if_icmp .ge 60, 3) := by decide +kernel
theorem dX4_choose_23 : decode cX4_choose 23 = .ok (.iload_n 2, 1) := by decide +kernel
theorem dX4_choose_24 : decode cX4_choose 24 = .ok (.iload 4, 2) := by decide +kernel
theorem dX4_choose_26 : decode cX4_choose 26 = .ok (.ishr, 1) := by decide +kernel
theorem dX4_choose_27 : decode cX4_choose 27 = .ok (.iconst 1, 1) := by decide +kernel
theorem dX4_choose_28 : decode cX4_choose 28 = .ok (.iand, 1) := by decide +kernel
theorem dX4_choose_29 : decode cX4_choose 29 = .ok (.iconst 1, 1) := by decide +kernel
theorem dX4_choose_30 : decode cX4_choose 30 = .ok (.if_icmp .ne 44, 3) := by decide +kernel
theorem dX4_choose_33 : decode cX4_choose 33 = .ok (.aload_n 1, 1) := by decide +kernel
theorem dX4_choose_34 : decode cX4_choose 34 = .ok (.iload 4, 2) := by decide +kernel
theorem dX4_choose_36 : decode cX4_choose 36 = .ok (.iconst 0, 1) := by decide +kernel
theorem dX4_choose_37 : decode cX4_choose 37 = .ok (.invokevirtual 57, 3) := by decide +kernel
theorem dX4_choose_40 : decode cX4_choose 40 = .ok (.ifCond .eq 34, 3) := by decide +kernel
theorem dX4_choose_43 : decode cX4_choose 43 = .ok (.aload_n 1, 1) := by decide +kernel
theorem dX4_choose_44 : decode cX4_choose 44 = .ok (.iload 4, 2) := by decide +kernel
theorem dX4_choose_46 : decode cX4_choose 46 = .ok (.iconst 1, 1) := by decide +kernel
theorem dX4_choose_47 : decode cX4_choose 47 = .ok (.invokevirtual 57, 3) := by decide +kernel
theorem dX4_choose_50 : decode cX4_choose 50 = .ok (.ifCond .eq 24, 3) := by decide +kernel
theorem dX4_choose_53 : decode cX4_choose 53 = .ok (.aload_n 0, 1) := by decide +kernel
theorem dX4_choose_54 : decode cX4_choose 54 = .ok (.getfield 15, 3) := by decide +kernel
theorem dX4_choose_57 : decode cX4_choose 57 = .ok (.aload_n 0, 1) := by decide +kernel
theorem dX4_choose_58 : decode cX4_choose 58 = .ok (.getfield 22, 3) := by decide +kernel
theorem dX4_choose_61 : decode cX4_choose 61 = .ok (.iload 4, 2) := by decide +kernel
theorem dX4_choose_63 : decode cX4_choose 63 = .ok (.iastore, 1) := by decide +kernel
theorem dX4_choose_64 : decode cX4_choose 64 = .ok (.aload_n 0, 1) := by decide +kernel
theorem dX4_choose_65 : decode cX4_choose 65 = .ok (.dup, 1) := by decide +kernel
theorem dX4_choose_66 : decode cX4_choose 66 = .ok (.getfield 22, 3) := by decide +kernel
theorem dX4_choose_69 : decode cX4_choose 69 = .ok (.iconst 1, 1) := by decide +kernel
theorem dX4_choose_70 : decode cX4_choose 70 = .ok (.iadd, 1) := by decide +kernel
theorem dX4_choose_71 : decode cX4_choose 71 = .ok (.putfield 22, 3) := by decide +kernel
theorem dX4_choose_74 : decode cX4_choose 74 = .ok (.iinc 4 1, 3) := by decide +kernel
theorem dX4_choose_77 : decode cX4_choose 77 = .ok (.goto (-69), 3) := by decide +kernel
theorem dX4_choose_80 : decode cX4_choose 80 = .ok (.return_, 1) := by decide +kernel
theorem dX4_stateOf_0 : decode cX4_stateOf 0 = .ok (.iconst 0, 1) := by decide +kernel
theorem dX4_stateOf_1 : decode cX4_stateOf 1 = .ok (.istore_n 2, 1) := by decide +kernel
theorem dX4_stateOf_2 : decode cX4_stateOf 2 = .ok (.iconst 0, 1) := by decide +kernel
theorem dX4_stateOf_3 : decode cX4_stateOf 3 = .ok (.istore_n 3, 1) := by decide +kernel
theorem dX4_stateOf_4 : decode cX4_stateOf 4 = .ok (.iload_n 3, 1) := by decide +kernel
theorem dX4_stateOf_5 : decode cX4_stateOf 5 = .ok (.aload_n 0, 1) := by decide +kernel
theorem dX4_stateOf_6 : decode cX4_stateOf 6 = .ok (.getfield 22, 3) := by decide +kernel
theorem dX4_stateOf_9 : decode cX4_stateOf 9 = .ok (.if_icmp .ge 28, 3) := by decide +kernel
theorem dX4_stateOf_12 : decode cX4_stateOf 12 = .ok (.iload_n 2, 1) := by decide +kernel
theorem dX4_stateOf_13 : decode cX4_stateOf 13 = .ok (.iload_n 1, 1) := by decide +kernel
theorem dX4_stateOf_14 : decode cX4_stateOf 14 = .ok (.aload_n 0, 1) := by decide +kernel
theorem dX4_stateOf_15 : decode cX4_stateOf 15 = .ok (.getfield 15, 3) := by decide +kernel
theorem dX4_stateOf_18 : decode cX4_stateOf 18 = .ok (.iload_n 3, 1) := by decide +kernel
theorem dX4_stateOf_19 : decode cX4_stateOf 19 = .ok (.iaload, 1) := by decide +kernel
theorem dX4_stateOf_20 : decode cX4_stateOf 20 = .ok (.ishr, 1) := by decide +kernel
theorem dX4_stateOf_21 : decode cX4_stateOf 21 = .ok (.iconst 1, 1) := by decide +kernel
theorem dX4_stateOf_22 : decode cX4_stateOf 22 = .ok (.iand, 1) := by decide +kernel
theorem dX4_stateOf_23 : decode cX4_stateOf 23 = .ok (.getstatic 26, 3) := by decide +kernel
theorem dX4_stateOf_26 : decode cX4_stateOf 26 = .ok (.iload_n 3, 1) := by decide +kernel
theorem dX4_stateOf_27 : decode cX4_stateOf 27 = .ok (.iaload, 1) := by decide +kernel
theorem dX4_stateOf_28 : decode cX4_stateOf 28 = .ok (.imul, 1) := by decide +kernel
theorem dX4_stateOf_29 : decode cX4_stateOf 29 = .ok (.iadd, 1) := by decide +kernel
theorem dX4_stateOf_30 : decode cX4_stateOf 30 = .ok (.istore_n 2, 1) := by decide +kernel
theorem dX4_stateOf_31 : decode cX4_stateOf 31 = .ok (.iinc 3 1, 3) := by decide +kernel
theorem dX4_stateOf_34 : decode cX4_stateOf 34 = .ok (.goto (-30), 3) := by decide +kernel
theorem dX4_stateOf_37 : decode cX4_stateOf 37 = .ok (.iload_n 2, 1) := by decide +kernel
theorem dX4_stateOf_38 : decode cX4_stateOf 38 = .ok (.ireturn, 1) := by decide +kernel
theorem dX4_nextDigits_0 : decode cX4_nextDigits 0 = .ok (.iconst 0, 1) := by decide +kernel
theorem dX4_nextDigits_1 : decode cX4_nextDigits 1 = .ok (.istore_n 1, 1) := by decide +kernel
theorem dX4_nextDigits_2 : decode cX4_nextDigits 2 = .ok (.iload_n 1, 1) := by decide +kernel
theorem dX4_nextDigits_3 : decode cX4_nextDigits 3 = .ok (.aload_n 0, 1) := by decide +kernel
theorem dX4_nextDigits_4 : decode cX4_nextDigits 4 = .ok (.getfield 22, 3) := by decide +kernel
theorem dX4_nextDigits_7 : decode cX4_nextDigits 7 = .ok (.if_icmp .ge 37, 3) := by decide +kernel
theorem dX4_nextDigits_10 : decode cX4_nextDigits 10 = .ok (.aload_n 0, 1) := by decide +kernel
theorem dX4_nextDigits_11 : decode cX4_nextDigits 11 = .ok (.getfield 19, 3) := by decide +kernel
theorem dX4_nextDigits_14 : decode cX4_nextDigits 14 = .ok (.iload_n 1, 1) := by decide +kernel
theorem dX4_nextDigits_15 : decode cX4_nextDigits 15 = .ok (.dup2, 1) := by decide +kernel
theorem dX4_nextDigits_16 : decode cX4_nextDigits 16 = .ok (.iaload, 1) := by decide +kernel
theorem dX4_nextDigits_17 : decode cX4_nextDigits 17 = .ok (.iconst 1, 1) := by decide +kernel
theorem dX4_nextDigits_18 : decode cX4_nextDigits 18 = .ok (.iadd, 1) := by decide +kernel
theorem dX4_nextDigits_19 : decode cX4_nextDigits 19 = .ok (.iastore, 1) := by decide +kernel
theorem dX4_nextDigits_20 : decode cX4_nextDigits 20 = .ok (.aload_n 0, 1) := by decide +kernel
theorem dX4_nextDigits_21 : decode cX4_nextDigits 21 = .ok (.getfield 19, 3) := by decide +kernel
theorem dX4_nextDigits_24 : decode cX4_nextDigits 24 = .ok (.iload_n 1, 1) := by decide +kernel
theorem dX4_nextDigits_25 : decode cX4_nextDigits 25 = .ok (.iaload, 1) := by decide +kernel
theorem dX4_nextDigits_26 : decode cX4_nextDigits 26 = .ok (.iconst 2, 1) := by decide +kernel
theorem dX4_nextDigits_27 : decode cX4_nextDigits 27 = .ok (.if_icmp .gt 4, 3) := by decide +kernel
theorem dX4_nextDigits_30 : decode cX4_nextDigits 30 = .ok (.return_, 1) := by decide +kernel
theorem dX4_nextDigits_31 : decode cX4_nextDigits 31 = .ok (.aload_n 0, 1) := by decide +kernel
theorem dX4_nextDigits_32 : decode cX4_nextDigits 32 = .ok (.getfield 19, 3) := by decide +kernel
theorem dX4_nextDigits_35 : decode cX4_nextDigits 35 = .ok (.iload_n 1, 1) := by decide +kernel
theorem dX4_nextDigits_36 : decode cX4_nextDigits 36 = .ok (.iconst 0, 1) := by decide +kernel
theorem dX4_nextDigits_37 : decode cX4_nextDigits 37 = .ok (.iastore, 1) := by decide +kernel
theorem dX4_nextDigits_38 : decode cX4_nextDigits 38 = .ok (.iinc 1 1, 3) := by decide +kernel
theorem dX4_nextDigits_41 : decode cX4_nextDigits 41 = .ok (.goto (-39), 3) := by decide +kernel
theorem dX4_nextDigits_44 : decode cX4_nextDigits 44 = .ok (.return_, 1) := by decide +kernel
theorem dX4_weigh_0 : decode cX4_weigh 0 = .ok (.iconst 0, 1) := by decide +kernel
theorem dX4_weigh_1 : decode cX4_weigh 1 = .ok (.istore_n 2, 1) := by decide +kernel
theorem dX4_weigh_2 : decode cX4_weigh 2 = .ok (.iconst 0, 1) := by decide +kernel
theorem dX4_weigh_3 : decode cX4_weigh 3 = .ok (.istore_n 3, 1) := by decide +kernel
theorem dX4_weigh_4 : decode cX4_weigh 4 = .ok (.iload_n 3, 1) := by decide +kernel
theorem dX4_weigh_5 : decode cX4_weigh 5 = .ok (.aload_n 0, 1) := by decide +kernel
theorem dX4_weigh_6 : decode cX4_weigh 6 = .ok (.getfield 22, 3) := by decide +kernel
theorem dX4_weigh_9 : decode cX4_weigh 9 = .ok (.if_icmp .ge 88, 3) := by decide +kernel
theorem dX4_weigh_12 : decode cX4_weigh 12 = .ok (.aload_n 0, 1) := by decide +kernel
theorem dX4_weigh_13 : decode cX4_weigh 13 = .ok (.getfield 19, 3) := by decide +kernel
theorem dX4_weigh_16 : decode cX4_weigh 16 = .ok (.iload_n 3, 1) := by decide +kernel
theorem dX4_weigh_17 : decode cX4_weigh 17 = .ok (.iaload, 1) := by decide +kernel
theorem dX4_weigh_18 : decode cX4_weigh 18 = .ok (.iconst 2, 1) := by decide +kernel
theorem dX4_weigh_19 : decode cX4_weigh 19 = .ok (.if_icmp .ne 72, 3) := by decide +kernel
theorem dX4_weigh_22 : decode cX4_weigh 22 = .ok (.aload_n 0, 1) := by decide +kernel
theorem dX4_weigh_23 : decode cX4_weigh 23 = .ok (.iload_n 1, 1) := by decide +kernel
theorem dX4_weigh_24 : decode cX4_weigh 24 = .ok (.iconst 2, 1) := by decide +kernel
theorem dX4_weigh_25 : decode cX4_weigh 25 = .ok (.getstatic 26, 3) := by decide +kernel
theorem dX4_weigh_28 : decode cX4_weigh 28 = .ok (.iload_n 3, 1) := by decide +kernel
theorem dX4_weigh_29 : decode cX4_weigh 29 = .ok (.iaload, 1) := by decide +kernel
theorem dX4_weigh_30 : decode cX4_weigh 30 = .ok (.imul, 1) := by decide +kernel
theorem dX4_weigh_31 : decode cX4_weigh 31 = .ok (.isub, 1) := by decide +kernel
theorem dX4_weigh_32 : decode cX4_weigh 32 = .ok (.invokevirtual 61, 3) := by decide +kernel
theorem dX4_weigh_35 : decode cX4_weigh 35 = .ok (.istore 4, 2) := by decide +kernel
theorem dX4_weigh_37 : decode cX4_weigh 37 = .ok (.aload_n 0, 1) := by decide +kernel
theorem dX4_weigh_38 : decode cX4_weigh 38 = .ok (.iload_n 1, 1) := by decide +kernel
theorem dX4_weigh_39 : decode cX4_weigh 39 = .ok (.getstatic 26, 3) := by decide +kernel
theorem dX4_weigh_42 : decode cX4_weigh 42 = .ok (.iload_n 3, 1) := by decide +kernel
theorem dX4_weigh_43 : decode cX4_weigh 43 = .ok (.iaload, 1) := by decide +kernel
theorem dX4_weigh_44 : decode cX4_weigh 44 = .ok (.isub, 1) := by decide +kernel
theorem dX4_weigh_45 : decode cX4_weigh 45 = .ok (.invokevirtual 61, 3) := by decide +kernel
theorem dX4_weigh_48 : decode cX4_weigh 48 = .ok (.istore 5, 2) := by decide +kernel
theorem dX4_weigh_50 : decode cX4_weigh 50 = .ok (.iload 4, 2) := by decide +kernel
theorem dX4_weigh_52 : decode cX4_weigh 52 = .ok (.iload 5, 2) := by decide +kernel
theorem dX4_weigh_54 : decode cX4_weigh 54 = .ok (.invokestatic 64, 3) := by decide +kernel
theorem dX4_weigh_57 : decode cX4_weigh 57 = .ok (.istore 6, 2) := by decide +kernel
theorem dX4_weigh_59 : decode cX4_weigh 59 = .ok (.iload 6, 2) := by decide +kernel
theorem dX4_weigh_61 : decode cX4_weigh 61 = .ok (.iconst 2, 1) := by decide +kernel
theorem dX4_weigh_62 : decode cX4_weigh 62 = .ok (.if_icmp .gt 9, 3) := by decide +kernel
theorem dX4_weigh_65 : decode cX4_weigh 65 = .ok (.iload 4, 2) := by decide +kernel
theorem dX4_weigh_67 : decode cX4_weigh 67 = .ok (.iload 5, 2) := by decide +kernel
theorem dX4_weigh_69 : decode cX4_weigh 69 = .ok (.ior, 1) := by decide +kernel
theorem dX4_weigh_70 : decode cX4_weigh 70 = .ok (.ireturn, 1) := by decide +kernel
theorem dX4_weigh_71 : decode cX4_weigh 71 = .ok (.iload_n 2, 1) := by decide +kernel
theorem dX4_weigh_72 : decode cX4_weigh 72 = .ok (.ifCond .ne 10, 3) := by decide +kernel
theorem dX4_weigh_75 : decode cX4_weigh 75 = .ok (.iload 6, 2) := by decide +kernel
theorem dX4_weigh_77 : decode cX4_weigh 77 = .ok (.iconst 1, 1) := by decide +kernel
theorem dX4_weigh_78 : decode cX4_weigh 78 = .ok (.iadd, 1) := by decide +kernel
theorem dX4_weigh_79 : decode cX4_weigh 79 = .ok (.goto 11, 3) := by decide +kernel
theorem dX4_weigh_82 : decode cX4_weigh 82 = .ok (.iload_n 2, 1) := by decide +kernel
theorem dX4_weigh_83 : decode cX4_weigh 83 = .ok (.iload 6, 2) := by decide +kernel
theorem dX4_weigh_85 : decode cX4_weigh 85 = .ok (.iconst 1, 1) := by decide +kernel
theorem dX4_weigh_86 : decode cX4_weigh 86 = .ok (.iadd, 1) := by decide +kernel
theorem dX4_weigh_87 : decode cX4_weigh 87 = .ok (.invokestatic 70, 3) := by decide +kernel
theorem dX4_weigh_90 : decode cX4_weigh 90 = .ok (.istore_n 2, 1) := by decide +kernel
theorem dX4_weigh_91 : decode cX4_weigh 91 = .ok (.iinc 3 1, 3) := by decide +kernel
theorem dX4_weigh_94 : decode cX4_weigh 94 = .ok (.goto (-90), 3) := by decide +kernel
theorem dX4_weigh_97 : decode cX4_weigh 97 = .ok (.iload_n 2, 1) := by decide +kernel
theorem dX4_weigh_98 : decode cX4_weigh 98 = .ok (.ireturn, 1) := by decide +kernel
theorem dX4_questions_0 : decode cX4_questions 0 = .ok (.iconst 0, 1) := by decide +kernel
theorem dX4_questions_1 : decode cX4_questions 1 = .ok (.aload_n 0, 1) := by decide +kernel
theorem dX4_questions_2 : decode cX4_questions 2 = .ok (.aload_n 0, 1) := by decide +kernel
theorem dX4_questions_3 : decode cX4_questions 3 = .ok (.invokevirtual 33, 3) := by decide +kernel
theorem dX4_questions_6 : decode cX4_questions 6 = .ok (.iconst 1, 1) := by decide +kernel
theorem dX4_questions_7 : decode cX4_questions 7 = .ok (.isub, 1) := by decide +kernel
theorem dX4_questions_8 : decode cX4_questions 8 = .ok (.invokevirtual 61, 3) := by decide +kernel
theorem dX4_questions_11 : decode cX4_questions 11 = .ok (.iconst 2, 1) := by decide +kernel
theorem dX4_questions_12 : decode cX4_questions 12 = .ok (.isub, 1) := by decide +kernel
theorem dX4_questions_13 : decode cX4_questions 13 = .ok (.invokestatic 64, 3) := by decide +kernel
theorem dX4_questions_16 : decode cX4_questions 16 = .ok (.ireturn, 1) := by decide +kernel
theorem dX4_firstFact_0 : decode cX4_firstFact 0 = .ok (.aload_n 0, 1) := by decide +kernel
theorem dX4_firstFact_1 : decode cX4_firstFact 1 = .ok (.invokevirtual 33, 3) := by decide +kernel
theorem dX4_firstFact_4 : decode cX4_firstFact 4 = .ok (.iconst 1, 1) := by decide +kernel
theorem dX4_firstFact_5 : decode cX4_firstFact 5 = .ok (.isub, 1) := by decide +kernel
theorem dX4_firstFact_6 : decode cX4_firstFact 6 = .ok (.istore_n 1, 1) := by decide +kernel
theorem dX4_firstFact_7 : decode cX4_firstFact 7 = .ok (.iconst 0, 1) := by decide +kernel
theorem dX4_firstFact_8 : decode cX4_firstFact 8 = .ok (.istore_n 2, 1) := by decide +kernel
theorem dX4_firstFact_9 : decode cX4_firstFact 9 = .ok (.iload_n 2, 1) := by decide +kernel
theorem dX4_firstFact_10 : decode cX4_firstFact 10 = .ok (.aload_n 0, 1) := by decide +kernel
theorem dX4_firstFact_11 : decode cX4_firstFact 11 = .ok (.getfield 22, 3) := by decide +kernel
theorem dX4_firstFact_14 : decode cX4_firstFact 14 = .ok (.if_icmp .ge 59, 3) := by decide +kernel
theorem dX4_firstFact_17 : decode cX4_firstFact 17 = .ok (.aload_n 0, 1) := by decide +kernel
theorem dX4_firstFact_18 : decode cX4_firstFact 18 = .ok (.iload_n 1, 1) := by decide +kernel
theorem dX4_firstFact_19 : decode cX4_firstFact 19 = .ok (.iconst 2, 1) := by decide +kernel
theorem dX4_firstFact_20 : decode cX4_firstFact 20 = .ok (.getstatic 26, 3) := by decide +kernel
theorem dX4_firstFact_23 : decode cX4_firstFact 23 = .ok (.iload_n 2, 1) := by decide +kernel
theorem dX4_firstFact_24 : decode cX4_firstFact 24 = .ok (.iaload, 1) := by decide +kernel
theorem dX4_firstFact_25 : decode cX4_firstFact 25 = .ok (.imul, 1) := by decide +kernel
theorem dX4_firstFact_26 : decode cX4_firstFact 26 = .ok (.isub, 1) := by decide +kernel
theorem dX4_firstFact_27 : decode cX4_firstFact 27 = .ok (.invokevirtual 61, 3) := by decide +kernel
theorem dX4_firstFact_30 : decode cX4_firstFact 30 = .ok (.aload_n 0, 1) := by decide +kernel
theorem dX4_firstFact_31 : decode cX4_firstFact 31 = .ok (.iload_n 1, 1) := by decide +kernel
theorem dX4_firstFact_32 : decode cX4_firstFact 32 = .ok (.getstatic 26, 3) := by decide +kernel
theorem dX4_firstFact_35 : decode cX4_firstFact 35 = .ok (.iload_n 2, 1) := by decide +kernel
theorem dX4_firstFact_36 : decode cX4_firstFact 36 = .ok (.iaload, 1) := by decide +kernel
theorem dX4_firstFact_37 : decode cX4_firstFact 37 = .ok (.isub, 1) := by decide +kernel
theorem dX4_firstFact_38 : decode cX4_firstFact 38 = .ok (.invokevirtual 61, 3) := by decide +kernel
theorem dX4_firstFact_41 : decode cX4_firstFact 41 = .ok (.invokestatic 64, 3) := by decide +kernel
theorem dX4_firstFact_44 : decode cX4_firstFact 44 = .ok (.istore_n 3, 1) := by decide +kernel
theorem dX4_firstFact_45 : decode cX4_firstFact 45 = .ok (.iload_n 3, 1) := by decide +kernel
theorem dX4_firstFact_46 : decode cX4_firstFact 46 = .ok (.iconst 2, 1) := by decide +kernel
theorem dX4_firstFact_47 : decode cX4_firstFact 47 = .ok (.invokestatic 64, 3) := by decide +kernel
theorem dX4_firstFact_50 : decode cX4_firstFact 50 = .ok (.iconst 1, 1) := by decide +kernel
theorem dX4_firstFact_51 : decode cX4_firstFact 51 = .ok (.iadd, 1) := by decide +kernel
theorem dX4_firstFact_52 : decode cX4_firstFact 52 = .ok (.aload_n 0, 1) := by decide +kernel
theorem dX4_firstFact_53 : decode cX4_firstFact 53 = .ok (.iload_n 1, 1) := by decide +kernel
theorem dX4_firstFact_54 : decode cX4_firstFact 54 = .ok (.invokevirtual 61, 3) := by decide +kernel
theorem dX4_firstFact_57 : decode cX4_firstFact 57 = .ok (.if_icmp .ne 10, 3) := by decide +kernel
theorem dX4_firstFact_60 : decode cX4_firstFact 60 = .ok (.aload_n 0, 1) := by decide +kernel
theorem dX4_firstFact_61 : decode cX4_firstFact 61 = .ok (.getfield 15, 3) := by decide +kernel
theorem dX4_firstFact_64 : decode cX4_firstFact 64 = .ok (.iload_n 2, 1) := by decide +kernel
theorem dX4_firstFact_65 : decode cX4_firstFact 65 = .ok (.iaload, 1) := by decide +kernel
theorem dX4_firstFact_66 : decode cX4_firstFact 66 = .ok (.ireturn, 1) := by decide +kernel
theorem dX4_firstFact_67 : decode cX4_firstFact 67 = .ok (.iinc 2 1, 3) := by decide +kernel
theorem dX4_firstFact_70 : decode cX4_firstFact 70 = .ok (.goto (-61), 3) := by decide +kernel
theorem dX4_firstFact_73 : decode cX4_firstFact 73 = .ok (.iconst (-1), 1) := by decide +kernel
theorem dX4_firstFact_74 : decode cX4_firstFact 74 = .ok (.ireturn, 1) := by decide +kernel
theorem dX5_init_0 : decode cX5_init 0 = .ok (.aload_n 0, 1) := by decide +kernel
theorem dX5_init_1 : decode cX5_init 1 = .ok (.invokespecial 3, 3) := by decide +kernel
theorem dX5_init_4 : decode cX5_init 4 = .ok (.aload_n 0, 1) := by decide +kernel
theorem dX5_init_5 : decode cX5_init 5 = .ok (.new 9, 3) := by decide +kernel
theorem dX5_init_8 : decode cX5_init 8 = .ok (.dup, 1) := by decide +kernel
theorem dX5_init_9 : decode cX5_init 9 = .ok (.invokespecial 11, 3) := by decide +kernel
theorem dX5_init_12 : decode cX5_init 12 = .ok (.putfield 12, 3) := by decide +kernel
theorem dX5_init_15 : decode cX5_init 15 = .ok (.return_, 1) := by decide +kernel
theorem dX5_reach_0 : decode cX5_reach 0 = .ok (.aload_n 0, 1) := by decide +kernel
theorem dX5_reach_1 : decode cX5_reach 1 = .ok (.getfield 12, 3) := by decide +kernel
theorem dX5_reach_4 : decode cX5_reach 4 = .ok (.aload_n 1, 1) := by decide +kernel
theorem dX5_reach_5 : decode cX5_reach 5 = .ok (.invokevirtual 18, 3) := by decide +kernel
theorem dX5_reach_8 : decode cX5_reach 8 = .ok (.aload_n 0, 1) := by decide +kernel
theorem dX5_reach_9 : decode cX5_reach 9 = .ok (.getfield 12, 3) := by decide +kernel
theorem dX5_reach_12 : decode cX5_reach 12 = .ok (.iload_n 3, 1) := by decide +kernel
theorem dX5_reach_13 : decode cX5_reach 13 = .ok (.iconst 1, 1) := by decide +kernel
theorem dX5_reach_14 : decode cX5_reach 14 = .ok (.iload 5, 2) := by decide +kernel
theorem dX5_reach_16 : decode cX5_reach 16 = .ok (.isub, 1) := by decide +kernel
theorem dX5_reach_17 : decode cX5_reach 17 = .ok (.invokevirtual 22, 3) := by decide +kernel
theorem dX5_reach_20 : decode cX5_reach 20 = .ok (.iconst 0, 1) := by decide +kernel
theorem dX5_reach_21 : decode cX5_reach 21 = .ok (.istore 6, 2) := by decide +kernel
theorem dX5_reach_23 : decode cX5_reach 23 = .ok (.iload 6, 2) := by decide +kernel
theorem dX5_reach_25 : decode cX5_reach 25 = .ok (.iload 4, 2) := by decide +kernel
theorem dX5_reach_27 : decode cX5_reach 27 = .ok (.if_icmp .ge 27, 3) := by decide +kernel
theorem dX5_reach_30 : decode cX5_reach 30 = .ok (.iload_n 2, 1) := by decide +kernel
theorem dX5_reach_31 : decode cX5_reach 31 = .ok (.iload 6, 2) := by decide +kernel
theorem dX5_reach_33 : decode cX5_reach 33 = .ok (.ishr, 1) := by decide +kernel
theorem dX5_reach_34 : decode cX5_reach 34 = .ok (.iconst 1, 1) := by decide +kernel
theorem dX5_reach_35 : decode cX5_reach 35 = .ok (.iand, 1) := by decide +kernel
theorem dX5_reach_36 : decode cX5_reach 36 = .ok (.ifCond .ne 12, 3) := by decide +kernel
theorem dX5_reach_39 : decode cX5_reach 39 = .ok (.aload_n 0, 1) := by decide +kernel
theorem dX5_reach_40 : decode cX5_reach 40 = .ok (.getfield 12, 3) := by decide +kernel
theorem dX5_reach_43 : decode cX5_reach 43 = .ok (.iload 6, 2) := by decide +kernel
theorem dX5_reach_45 : decode cX5_reach 45 = .ok (.invokevirtual 26, 3) := by decide +kernel
theorem dX5_reach_48 : decode cX5_reach 48 = .ok (.iinc 6 1, 3) := by decide +kernel
theorem dX5_reach_51 : decode cX5_reach 51 = .ok (.goto (-28), 3) := by decide +kernel
theorem dX5_reach_54 : decode cX5_reach 54 = .ok (.aload_n 0, 1) := by decide +kernel
theorem dX5_reach_55 : decode cX5_reach 55 = .ok (.getfield 12, 3) := by decide +kernel
theorem dX5_reach_58 : decode cX5_reach 58 = .ok (.iload_n 3, 1) := by decide +kernel
theorem dX5_reach_59 : decode cX5_reach 59 = .ok (.iload 5, 2) := by decide +kernel
theorem dX5_reach_61 : decode cX5_reach 61 = .ok (.invokevirtual 22, 3) := by decide +kernel
theorem dX5_reach_64 : decode cX5_reach 64 = .ok (.aload_n 0, 1) := by decide +kernel
theorem dX5_reach_65 : decode cX5_reach 65 = .ok (.getfield 12, 3) := by decide +kernel
theorem dX5_reach_68 : decode cX5_reach 68 = .ok (.aload_n 1, 1) := by decide +kernel
theorem dX5_reach_69 : decode cX5_reach 69 = .ok (.invokevirtual 30, 3) := by decide +kernel
theorem dX5_reach_72 : decode cX5_reach 72 = .ok (.return_, 1) := by decide +kernel
theorem dX5_proves_0 : decode cX5_proves 0 = .ok (.aload_n 0, 1) := by decide +kernel
theorem dX5_proves_1 : decode cX5_proves 1 = .ok (.aload_n 1, 1) := by decide +kernel
theorem dX5_proves_2 : decode cX5_proves 2 = .ok (.iload_n 2, 1) := by decide +kernel
theorem dX5_proves_3 : decode cX5_proves 3 = .ok (.iload_n 3, 1) := by decide +kernel
theorem dX5_proves_4 : decode cX5_proves 4 = .ok (.iload 4, 2) := by decide +kernel
theorem dX5_proves_6 : decode cX5_proves 6 = .ok (.iconst 0, 1) := by decide +kernel
theorem dX5_proves_7 : decode cX5_proves 7 = .ok (.invokevirtual 33, 3) := by decide +kernel
theorem dX5_proves_10 : decode cX5_proves 10 = .ok (.aload_n 0, 1) := by decide +kernel
theorem dX5_proves_11 : decode cX5_proves 11 = .ok (.getfield 12, 3) := by decide +kernel
theorem dX5_proves_14 : decode cX5_proves 14 = .ok (.invokevirtual 37, 3) := by decide +kernel
theorem dX5_proves_17 : decode cX5_proves 17 = .ok (.ireturn, 1) := by decide +kernel
theorem dX5_firstAlone_0 : decode cX5_firstAlone 0 = .ok (.iconst 0, 1) := by decide +kernel
theorem dX5_firstAlone_1 : decode cX5_firstAlone 1 = .ok (.istore 5, 2) := by decide +kernel
theorem dX5_firstAlone_3 : decode cX5_firstAlone 3 = .ok (.iload 5, 2) := by decide +kernel
theorem dX5_firstAlone_5 : decode cX5_firstAlone 5 = .ok (.iload 4, 2) := by decide +kernel
theorem dX5_firstAlone_7 : decode cX5_firstAlone 7 = .ok (.if_icmp .ge 37, 3) := by decide +kernel
theorem dX5_firstAlone_10 : decode cX5_firstAlone 10 = .ok (.iload_n 2, 1) := by decide +kernel
theorem dX5_firstAlone_11 : decode cX5_firstAlone 11 = .ok (.iload 5, 2) := by decide +kernel
theorem dX5_firstAlone_13 : decode cX5_firstAlone 13 = .ok (.ishr, 1) := by decide +kernel
theorem dX5_firstAlone_14 : decode cX5_firstAlone 14 = .ok (.iconst 1, 1) := by decide +kernel
theorem dX5_firstAlone_15 : decode cX5_firstAlone 15 = .ok (.iand, 1) := by decide +kernel
theorem dX5_firstAlone_16 : decode cX5_firstAlone 16 = .ok (.iconst 1, 1) := by decide +kernel
theorem dX5_firstAlone_17 : decode cX5_firstAlone 17 = .ok (.if_icmp .ne 21, 3) := by decide +kernel
theorem dX5_firstAlone_20 : decode cX5_firstAlone 20 = .ok (.aload_n 0, 1) := by decide +kernel
theorem dX5_firstAlone_21 : decode cX5_firstAlone 21 = .ok (.aload_n 1, 1) := by decide +kernel
theorem dX5_firstAlone_22 : decode cX5_firstAlone 22 = .ok (.iconst 1, 1) := by decide +kernel
theorem dX5_firstAlone_23 : decode cX5_firstAlone 23 = .ok (.iload 5, 2) := by decide +kernel
theorem dX5_firstAlone_25 : decode cX5_firstAlone 25 = .ok (.ishl, 1) := by decide +kernel
theorem dX5_firstAlone_26 : decode cX5_firstAlone 26 = .ok (.iload_n 3, 1) := by decide +kernel
theorem dX5_firstAlone_27 : decode cX5_firstAlone 27 = .ok (.iload 4, 2) := by decide +kernel
theorem dX5_firstAlone_29 : decode cX5_firstAlone 29 = .ok (.invokevirtual 41, 3) := by decide +kernel
theorem dX5_firstAlone_32 : decode cX5_firstAlone 32 = .ok (.ifCond .eq 6, 3) := by decide +kernel
theorem dX5_firstAlone_35 : decode cX5_firstAlone 35 = .ok (.iload 5, 2) := by decide +kernel
theorem dX5_firstAlone_37 : decode cX5_firstAlone 37 = .ok (.ireturn, 1) := by decide +kernel
theorem dX5_firstAlone_38 : decode cX5_firstAlone 38 = .ok (.iinc 5 1, 3) := by decide +kernel
theorem dX5_firstAlone_41 : decode cX5_firstAlone 41 = .ok (.goto (-38), 3) := by decide +kernel
theorem dX5_firstAlone_44 : decode cX5_firstAlone 44 = .ok (.iconst (-1), 1) := by decide +kernel
theorem dX5_firstAlone_45 : decode cX5_firstAlone 45 = .ok (.ireturn, 1) := by decide +kernel
theorem dX5_leastSet_0 : decode cX5_leastSet 0 = .ok (.iload_n 2, 1) := by decide +kernel
theorem dX5_leastSet_1 : decode cX5_leastSet 1 = .ok (.istore 5, 2) := by decide +kernel
theorem dX5_leastSet_3 : decode cX5_leastSet 3 = .ok (.iload_n 2, 1) := by decide +kernel
theorem dX5_leastSet_4 : decode cX5_leastSet 4 = .ok (.invokestatic 45, 3) := by decide +kernel
theorem dX5_leastSet_7 : decode cX5_leastSet 7 = .ok (.istore 6, 2) := by decide +kernel
theorem dX5_leastSet_9 : decode cX5_leastSet 9 = .ok (.iconst 0, 1) := by decide +kernel
theorem dX5_leastSet_10 : decode cX5_leastSet 10 = .ok (.istore 7, 2) := by decide +kernel
theorem dX5_leastSet_12 : decode cX5_leastSet 12 = .ok (.iload 7, 2) := by decide +kernel
theorem dX5_leastSet_14 : decode cX5_leastSet 14 = .ok (.iload_n 2, 1) := by decide +kernel
theorem dX5_leastSet_15 : decode cX5_leastSet 15 = .ok (.if_icmp .ge 64, 3) := by decide +kernel
theorem dX5_leastSet_18 : decode cX5_leastSet 18 = .ok (.iload 7, 2) := by decide +kernel
theorem dX5_leastSet_20 : decode cX5_leastSet 20 = .ok (.iload_n 2, 1) := by decide +kernel
theorem dX5_leastSet_21 : decode cX5_leastSet 21 = .ok (.iconst (-1), 1) := by decide +kernel
theorem dX5_leastSet_22 : decode cX5_leastSet 22 = .ok (.ixor, 1) := by decide +kernel
theorem dX5_leastSet_23 : decode cX5_leastSet 23 = .ok (.iand, 1) := by decide +kernel
theorem dX5_leastSet_24 : decode cX5_leastSet 24 = .ok (.ifCond .ne 17, 3) := by decide +kernel
theorem dX5_leastSet_27 : decode cX5_leastSet 27 = .ok (.iload 7, 2) := by decide +kernel
theorem dX5_leastSet_29 : decode cX5_leastSet 29 = .ok (.invokestatic 45, 3) := by decide +kernel
theorem dX5_leastSet_32 : decode cX5_leastSet 32 = .ok (.iload 6, 2) := by decide +kernel
theorem dX5_leastSet_34 : decode cX5_leastSet 34 = .ok (.if_icmp .ge 7, 3) := by decide +kernel
theorem dX5_leastSet_37 : decode cX5_leastSet 37 = .ok (.iconst 1, 1) := by decide +kernel
theorem dX5_leastSet_38 : decode cX5_leastSet 38 = .ok (.goto 4, 3) := by decide +kernel
theorem dX5_leastSet_41 : decode cX5_leastSet 41 = .ok (.iconst 0, 1) := by decide +kernel
theorem dX5_leastSet_42 : decode cX5_leastSet 42 = .ok (.istore 8, 2) := by decide +kernel
theorem dX5_leastSet_44 : decode cX5_leastSet 44 = .ok (.iload 8, 2) := by decide +kernel
theorem dX5_leastSet_46 : decode cX5_leastSet 46 = .ok (.ifCond .eq 27, 3) := by decide +kernel
theorem dX5_leastSet_49 : decode cX5_leastSet 49 = .ok (.aload_n 0, 1) := by decide +kernel
theorem dX5_leastSet_50 : decode cX5_leastSet 50 = .ok (.aload_n 1, 1) := by decide +kernel
theorem dX5_leastSet_51 : decode cX5_leastSet 51 = .ok (.iload 7, 2) := by decide +kernel
theorem dX5_leastSet_53 : decode cX5_leastSet 53 = .ok (.iload_n 3, 1) := by decide +kernel
theorem dX5_leastSet_54 : decode cX5_leastSet 54 = .ok (.iload 4, 2) := by decide +kernel
theorem dX5_leastSet_56 : decode cX5_leastSet 56 = .ok (.invokevirtual 41, 3) := by decide +kernel
theorem dX5_leastSet_59 : decode cX5_leastSet 59 = .ok (.ifCond .eq 14, 3) := by decide +kernel
theorem dX5_leastSet_62 : decode cX5_leastSet 62 = .ok (.iload 7, 2) := by decide +kernel
theorem dX5_leastSet_64 : decode cX5_leastSet 64 = .ok (.istore 5, 2) := by decide +kernel
theorem dX5_leastSet_66 : decode cX5_leastSet 66 = .ok (.iload 7, 2) := by decide +kernel
theorem dX5_leastSet_68 : decode cX5_leastSet 68 = .ok (.invokestatic 45, 3) := by decide +kernel
theorem dX5_leastSet_71 : decode cX5_leastSet 71 = .ok (.istore 6, 2) := by decide +kernel
theorem dX5_leastSet_73 : decode cX5_leastSet 73 = .ok (.iinc 7 1, 3) := by decide +kernel
theorem dX5_leastSet_76 : decode cX5_leastSet 76 = .ok (.goto (-64), 3) := by decide +kernel
theorem dX5_leastSet_79 : decode cX5_leastSet 79 = .ok (.iload 5, 2) := by decide +kernel
theorem dX5_leastSet_81 : decode cX5_leastSet 81 = .ok (.ireturn, 1) := by decide +kernel
theorem dX5_firstAlike_0 : decode cX5_firstAlike 0 = .ok (.aload_n 0, 1) := by decide +kernel
theorem dX5_firstAlike_1 : decode cX5_firstAlike 1 = .ok (.aload_n 1, 1) := by decide +kernel
theorem dX5_firstAlike_2 : decode cX5_firstAlike 2 = .ok (.iload_n 2, 1) := by decide +kernel
theorem dX5_firstAlike_3 : decode cX5_firstAlike 3 = .ok (.iload_n 3, 1) := by decide +kernel
theorem dX5_firstAlike_4 : decode cX5_firstAlike 4 = .ok (.iload 4, 2) := by decide +kernel
theorem dX5_firstAlike_6 : decode cX5_firstAlike 6 = .ok (.iconst 0, 1) := by decide +kernel
theorem dX5_firstAlike_7 : decode cX5_firstAlike 7 = .ok (.invokevirtual 33, 3) := by decide +kernel
theorem dX5_firstAlike_10 : decode cX5_firstAlike 10 = .ok (.aload_n 0, 1) := by decide +kernel
theorem dX5_firstAlike_11 : decode cX5_firstAlike 11 = .ok (.getfield 12, 3) := by decide +kernel
theorem dX5_firstAlike_14 : decode cX5_firstAlike 14 = .ok (.iconst 0, 1) := by decide +kernel
theorem dX5_firstAlike_15 : decode cX5_firstAlike 15 = .ok (.invokevirtual 51, 3) := by decide +kernel
theorem dX5_firstAlike_18 : decode cX5_firstAlike 18 = .ok (.istore 5, 2) := by decide +kernel
theorem dX5_firstAlike_20 : decode cX5_firstAlike 20 = .ok (.aload_n 0, 1) := by decide +kernel
theorem dX5_firstAlike_21 : decode cX5_firstAlike 21 = .ok (.aload_n 1, 1) := by decide +kernel
theorem dX5_firstAlike_22 : decode cX5_firstAlike 22 = .ok (.iload_n 2, 1) := by decide +kernel
theorem dX5_firstAlike_23 : decode cX5_firstAlike 23 = .ok (.iload_n 3, 1) := by decide +kernel
theorem dX5_firstAlike_24 : decode cX5_firstAlike 24 = .ok (.iload 4, 2) := by decide +kernel
theorem dX5_firstAlike_26 : decode cX5_firstAlike 26 = .ok (.iconst 1, 1) := by decide +kernel
theorem dX5_firstAlike_27 : decode cX5_firstAlike 27 = .ok (.invokevirtual 33, 3) := by decide +kernel
theorem dX5_firstAlike_30 : decode cX5_firstAlike 30 = .ok (.aload_n 0, 1) := by decide +kernel
theorem dX5_firstAlike_31 : decode cX5_firstAlike 31 = .ok (.getfield 12, 3) := by decide +kernel
theorem dX5_firstAlike_34 : decode cX5_firstAlike 34 = .ok (.iconst 0, 1) := by decide +kernel
theorem dX5_firstAlike_35 : decode cX5_firstAlike 35 = .ok (.invokevirtual 51, 3) := by decide +kernel
theorem dX5_firstAlike_38 : decode cX5_firstAlike 38 = .ok (.istore 6, 2) := by decide +kernel
theorem dX5_firstAlike_40 : decode cX5_firstAlike 40 = .ok (.iload 5, 2) := by decide +kernel
theorem dX5_firstAlike_42 : decode cX5_firstAlike 42 = .ok (.iconst (-1), 1) := by decide +kernel
theorem dX5_firstAlike_43 : decode cX5_firstAlike 43 = .ok (.if_icmp .eq 9, 3) := by decide +kernel
theorem dX5_firstAlike_46 : decode cX5_firstAlike 46 = .ok (.iload 6, 2) := by decide +kernel
theorem dX5_firstAlike_48 : decode cX5_firstAlike 48 = .ok (.iconst (-1), 1) := by decide +kernel
theorem dX5_firstAlike_49 : decode cX5_firstAlike 49 = .ok (.if_icmp .ne 7, 3) := by decide +kernel
theorem dX5_firstAlike_52 : decode cX5_firstAlike 52 = .ok (.iconst (-1), 1) := by decide +kernel
theorem dX5_firstAlike_53 : decode cX5_firstAlike 53 = .ok (.goto 10, 3) := by decide +kernel
theorem dX5_firstAlike_56 : decode cX5_firstAlike 56 = .ok (.iload 5, 2) := by decide +kernel
theorem dX5_firstAlike_58 : decode cX5_firstAlike 58 = .ok (.iload 6, 2) := by decide +kernel
theorem dX5_firstAlike_60 : decode cX5_firstAlike 60 = .ok (.invokestatic 54, 3) := by decide +kernel
theorem dX5_firstAlike_63 : decode cX5_firstAlike 63 = .ok (.ireturn, 1) := by decide +kernel
theorem dX6_init_0 : decode cX6_init 0 = .ok (.aload_n 0, 1) := by decide +kernel
theorem dX6_init_1 : decode cX6_init 1 = .ok (.invokespecial 3, 3) := by decide +kernel
theorem dX6_init_4 : decode cX6_init 4 = .ok (.aload_n 0, 1) := by decide +kernel
theorem dX6_init_5 : decode cX6_init 5 = .ok (.sipush 200, 3) := by decide +kernel
theorem dX6_init_8 : decode cX6_init 8 = .ok (.newarray .int, 2) := by decide +kernel
theorem dX6_init_10 : decode cX6_init 10 = .ok (.putfield 11, 3) := by decide +kernel
theorem dX6_init_13 : decode cX6_init 13 = .ok (.aload_n 0, 1) := by decide +kernel
theorem dX6_init_14 : decode cX6_init 14 = .ok (.new 9, 3) := by decide +kernel
theorem dX6_init_17 : decode cX6_init 17 = .ok (.dup, 1) := by decide +kernel
theorem dX6_init_18 : decode cX6_init 18 = .ok (.invokespecial 17, 3) := by decide +kernel
theorem dX6_init_21 : decode cX6_init 21 = .ok (.putfield 18, 3) := by decide +kernel
theorem dX6_init_24 : decode cX6_init 24 = .ok (.aload_n 0, 1) := by decide +kernel
theorem dX6_init_25 : decode cX6_init 25 = .ok (.iconst 0, 1) := by decide +kernel
theorem dX6_init_26 : decode cX6_init 26 = .ok (.putfield 22, 3) := by decide +kernel
theorem dX6_init_29 : decode cX6_init 29 = .ok (.aload_n 0, 1) := by decide +kernel
theorem dX6_init_30 : decode cX6_init 30 = .ok (.iconst 0, 1) := by decide +kernel
theorem dX6_init_31 : decode cX6_init 31 = .ok (.putfield 26, 3) := by decide +kernel
theorem dX6_init_34 : decode cX6_init 34 = .ok (.aload_n 0, 1) := by decide +kernel
theorem dX6_init_35 : decode cX6_init 35 = .ok (.iconst 0, 1) := by decide +kernel
theorem dX6_init_36 : decode cX6_init 36 = .ok (.putfield 29, 3) := by decide +kernel
theorem dX6_init_39 : decode cX6_init 39 = .ok (.return_, 1) := by decide +kernel
theorem dX6_read_0 : decode cX6_read 0 = .ok (.aload_n 0, 1) := by decide +kernel
theorem dX6_read_1 : decode cX6_read 1 = .ok (.iload_n 2, 1) := by decide +kernel
theorem dX6_read_2 : decode cX6_read 2 = .ok (.sipush 200, 3) := by decide +kernel
theorem dX6_read_5 : decode cX6_read 5 = .ok (.invokestatic 32, 3) := by decide +kernel
theorem dX6_read_8 : decode cX6_read 8 = .ok (.putfield 22, 3) := by decide +kernel
theorem dX6_read_11 : decode cX6_read 11 = .ok (.iconst 0, 1) := by decide +kernel
theorem dX6_read_12 : decode cX6_read 12 = .ok (.istore_n 3, 1) := by decide +kernel
theorem dX6_read_13 : decode cX6_read 13 = .ok (.iload_n 3, 1) := by decide +kernel
theorem dX6_read_14 : decode cX6_read 14 = .ok (.aload_n 0, 1) := by decide +kernel
theorem dX6_read_15 : decode cX6_read 15 = .ok (.getfield 22, 3) := by decide +kernel
theorem dX6_read_18 : decode cX6_read 18 = .ok (.if_icmp .ge 20, 3) := by decide +kernel
theorem dX6_read_21 : decode cX6_read 21 = .ok (.aload_n 0, 1) := by decide +kernel
theorem dX6_read_22 : decode cX6_read 22 = .ok (.getfield 11, 3) := by decide +kernel
theorem dX6_read_25 : decode cX6_read 25 = .ok (.iload_n 3, 1) := by decide +kernel
theorem dX6_read_26 : decode cX6_read 26 = .ok (.aload_n 1, 1) := by decide +kernel
theorem dX6_read_27 : decode cX6_read 27 = .ok (.iload_n 3, 1) := by decide +kernel
theorem dX6_read_28 : decode cX6_read 28 = .ok (.invokevirtual 38, 3) := by decide +kernel
theorem dX6_read_31 : decode cX6_read 31 = .ok (.iastore, 1) := by decide +kernel
theorem dX6_read_32 : decode cX6_read 32 = .ok (.iinc 3 1, 3) := by decide +kernel
theorem dX6_read_35 : decode cX6_read 35 = .ok (.goto (-22), 3) := by decide +kernel
theorem dX6_read_38 : decode cX6_read 38 = .ok (.aload_n 0, 1) := by decide +kernel
theorem dX6_read_39 : decode cX6_read 39 = .ok (.iconst 0, 1) := by decide +kernel
theorem dX6_read_40 : decode cX6_read 40 = .ok (.putfield 26, 3) := by decide +kernel
theorem dX6_read_43 : decode cX6_read 43 = .ok (.aload_n 0, 1) := by decide +kernel
theorem dX6_read_44 : decode cX6_read 44 = .ok (.iconst 0, 1) := by decide +kernel
theorem dX6_read_45 : decode cX6_read 45 = .ok (.putfield 29, 3) := by decide +kernel
theorem dX6_read_48 : decode cX6_read 48 = .ok (.aload_n 0, 1) := by decide +kernel
theorem dX6_read_49 : decode cX6_read 49 = .ok (.getfield 18, 3) := by decide +kernel
theorem dX6_read_52 : decode cX6_read 52 = .ok (.invokevirtual 44, 3) := by decide +kernel
theorem dX6_read_55 : decode cX6_read 55 = .ok (.aload_n 0, 1) := by decide +kernel
theorem dX6_read_56 : decode cX6_read 56 = .ok (.invokevirtual 47, 3) := by decide +kernel
theorem dX6_read_59 : decode cX6_read 59 = .ok (.iconst 0, 1) := by decide +kernel
theorem dX6_read_60 : decode cX6_read 60 = .ok (.istore_n 3, 1) := by decide +kernel
theorem dX6_read_61 : decode cX6_read 61 = .ok (.iload_n 3, 1) := by decide +kernel
theorem dX6_read_62 : decode cX6_read 62 = .ok (.bipush 14, 2) := by decide +kernel
theorem dX6_read_64 : decode cX6_read 64 = .ok (.if_icmp .ge 37, 3) := by decide +kernel
theorem dX6_read_67 : decode cX6_read 67 = .ok (.aload_n 0, 1) := by decide +kernel
theorem dX6_read_68 : decode cX6_read 68 = .ok (.getfield 29, 3) := by decide +kernel
theorem dX6_read_71 : decode cX6_read 71 = .ok (.ifCond .ne 30, 3) := by decide +kernel
theorem dX6_read_74 : decode cX6_read 74 = .ok (.aload_n 0, 1) := by decide +kernel
theorem dX6_read_75 : decode cX6_read 75 = .ok (.getfield 26, 3) := by decide +kernel
theorem dX6_read_78 : decode cX6_read 78 = .ok (.aload_n 0, 1) := by decide +kernel
theorem dX6_read_79 : decode cX6_read 79 = .ok (.getfield 22, 3) := by decide +kernel
theorem dX6_read_82 : decode cX6_read 82 = .ok (.if_icmp .ge 19, 3) := by decide +kernel
theorem dX6_read_85 : decode cX6_read 85 = .ok (.aload_n 0, 1) := by decide +kernel
theorem dX6_read_86 : decode cX6_read 86 = .ok (.bipush 59, 2) := by decide +kernel
theorem dX6_read_88 : decode cX6_read 88 = .ok (.invokevirtual 50, 3) := by decide +kernel
theorem dX6_read_91 : decode cX6_read 91 = .ok (.aload_n 0, 1) := by decide +kernel
theorem dX6_read_92 : decode cX6_read 92 = .ok (.invokevirtual 47, 3) := by decide +kernel
theorem dX6_read_95 : decode cX6_read 95 = .ok (.iinc 3 1, 3) := by decide +kernel
theorem dX6_read_98 : decode cX6_read 98 = .ok (.goto (-37), 3) := by decide +kernel
theorem dX6_read_101 : decode cX6_read 101 = .ok (.aload_n 0, 1) := by decide +kernel
theorem dX6_read_102 : decode cX6_read 102 = .ok (.getfield 29, 3) := by decide +kernel
theorem dX6_read_105 : decode cX6_read 105 = .ok (.ifCond .ne 13, 3) := by decide +kernel
theorem dX6_read_108 : decode cX6_read 108 = .ok (.aload_n 0, 1) := by decide +kernel
theorem dX6_read_109 : decode cX6_read 109 = .ok (.getfield 18, 3) := by decide +kernel
theorem dX6_read_112 : decode cX6_read 112 = .ok (.invokevirtual 54, 3) := by decide +kernel
theorem dX6_read_115 : decode cX6_read 115 = .ok (.goto 7, 3) := by decide +kernel
theorem dX6_read_118 : decode cX6_read 118 = .ok (.aload_n 0, 1) := by decide +kernel
theorem dX6_read_119 : decode cX6_read 119 = .ok (.getfield 29, 3) := by decide +kernel
theorem dX6_read_122 : decode cX6_read 122 = .ok (.ireturn, 1) := by decide +kernel
theorem dX6_result_0 : decode cX6_result 0 = .ok (.aload_n 0, 1) := by decide +kernel
theorem dX6_result_1 : decode cX6_result 1 = .ok (.getfield 18, 3) := by decide +kernel
theorem dX6_result_4 : decode cX6_result 4 = .ok (.areturn, 1) := by decide +kernel
theorem dX6_next_0 : decode cX6_next 0 = .ok (.aload_n 0, 1) := by decide +kernel
theorem dX6_next_1 : decode cX6_next 1 = .ok (.getfield 26, 3) := by decide +kernel
theorem dX6_next_4 : decode cX6_next 4 = .ok (.ifCond .lt 38, 3) := by decide +kernel
theorem dX6_next_7 : decode cX6_next 7 = .ok (.aload_n 0, 1) := by decide +kernel
theorem dX6_next_8 : decode cX6_next 8 = .ok (.getfield 26, 3) := by decide +kernel
theorem dX6_next_11 : decode cX6_next 11 = .ok (.aload_n 0, 1) := by decide +kernel
theorem dX6_next_12 : decode cX6_next 12 = .ok (.getfield 22, 3) := by decide +kernel
theorem dX6_next_15 : decode cX6_next 15 = .ok (.if_icmp .ge 27, 3) := by decide +kernel
theorem dX6_next_18 : decode cX6_next 18 = .ok (.aload_n 0, 1) := by decide +kernel
theorem dX6_next_19 : decode cX6_next 19 = .ok (.getfield 26, 3) := by decide +kernel
theorem dX6_next_22 : decode cX6_next 22 = .ok (.aload_n 0, 1) := by decide +kernel
theorem dX6_next_23 : decode cX6_next 23 = .ok (.getfield 11, 3) := by decide +kernel
theorem dX6_next_26 : decode cX6_next 26 = .ok (.arraylength, 1) := by decide +kernel
theorem dX6_next_27 : decode cX6_next 27 = .ok (.if_icmp .ge 15, 3) := by decide +kernel
theorem dX6_next_30 : decode cX6_next 30 = .ok (.aload_n 0, 1) := by decide +kernel
theorem dX6_next_31 : decode cX6_next 31 = .ok (.getfield 11, 3) := by decide +kernel
theorem dX6_next_34 : decode cX6_next 34 = .ok (.aload_n 0, 1) := by decide +kernel
theorem dX6_next_35 : decode cX6_next 35 = .ok (.getfield 26, 3) := by decide +kernel
theorem dX6_next_38 : decode cX6_next 38 = .ok (.iaload, 1) := by decide +kernel
theorem dX6_next_39 : decode cX6_next 39 = .ok (.goto 4, 3) := by decide +kernel
theorem dX6_next_42 : decode cX6_next 42 = .ok (.iconst (-1), 1) := by decide +kernel
theorem dX6_next_43 : decode cX6_next 43 = .ok (.ireturn, 1) := by decide +kernel
theorem dX6_fail_0 : decode cX6_fail 0 = .ok (.aload_n 0, 1) := by decide +kernel
theorem dX6_fail_1 : decode cX6_fail 1 = .ok (.getfield 29, 3) := by decide +kernel
theorem dX6_fail_4 : decode cX6_fail 4 = .ok (.ifCond .ne 17, 3) := by decide +kernel
theorem dX6_fail_7 : decode cX6_fail 7 = .ok (.aload_n 0, 1) := by decide +kernel
theorem dX6_fail_8 : decode cX6_fail 8 = .ok (.sipush (-1000), 3) := by decide +kernel
theorem dX6_fail_11 : decode cX6_fail 11 = .ok (.iload_n 1, 1) := by decide +kernel
theorem dX6_fail_12 : decode cX6_fail 12 = .ok (.imul, 1) := by decide +kernel
theorem dX6_fail_13 : decode cX6_fail 13 = .ok (.aload_n 0, 1) := by decide +kernel
theorem dX6_fail_14 : decode cX6_fail 14 = .ok (.getfield 26, 3) := by decide +kernel
theorem dX6_fail_17 : decode cX6_fail 17 = .ok (.isub, 1) := by decide +kernel
theorem dX6_fail_18 : decode cX6_fail 18 = .ok (.putfield 29, 3) := by decide +kernel
theorem dX6_fail_21 : decode cX6_fail 21 = .ok (.return_, 1) := by decide +kernel
theorem dX6_take_0 : decode cX6_take 0 = .ok (.aload_n 0, 1) := by decide +kernel
theorem dX6_take_1 : decode cX6_take 1 = .ok (.invokevirtual 58, 3) := by decide +kernel
theorem dX6_take_4 : decode cX6_take 4 = .ok (.iload_n 1, 1) := by decide +kernel
theorem dX6_take_5 : decode cX6_take 5 = .ok (.if_icmp .ne 16, 3) := by decide +kernel
theorem dX6_take_8 : decode cX6_take 8 = .ok (.aload_n 0, 1) := by decide +kernel
theorem dX6_take_9 : decode cX6_take 9 = .ok (.dup, 1) := by decide +kernel
theorem dX6_take_10 : decode cX6_take 10 = .ok (.getfield 26, 3) := by decide +kernel
theorem dX6_take_13 : decode cX6_take 13 = .ok (.iconst 1, 1) := by decide +kernel
theorem dX6_take_14 : decode cX6_take 14 = .ok (.iadd, 1) := by decide +kernel
theorem dX6_take_15 : decode cX6_take 15 = .ok (.putfield 26, 3) := by decide +kernel
theorem dX6_take_18 : decode cX6_take 18 = .ok (.goto 8, 3) := by decide +kernel
theorem dX6_take_21 : decode cX6_take 21 = .ok (.aload_n 0, 1) := by decide +kernel
theorem dX6_take_22 : decode cX6_take 22 = .ok (.iconst 1, 1) := by decide +kernel
theorem dX6_take_23 : decode cX6_take 23 = .ok (.invokevirtual 61, 3) := by decide +kernel
theorem dX6_take_26 : decode cX6_take 26 = .ok (.return_, 1) := by decide +kernel
theorem dX6_takeOpening_0 : decode cX6_takeOpening 0 = .ok (.iload_n 1, 1) := by decide +kernel
theorem dX6_takeOpening_1 : decode cX6_takeOpening 1 = .ok (.bipush 6, 2) := by decide +kernel
theorem dX6_takeOpening_3 : decode cX6_takeOpening 3 = .ok (.if_icmp .lt 10, 3) := by decide +kernel
theorem dX6_takeOpening_6 : decode cX6_takeOpening 6 = .ok (.aload_n 0, 1) := by decide +kernel
theorem dX6_takeOpening_7 : decode cX6_takeOpening 7 = .ok (.iconst 5, 1) := by decide +kernel
theorem dX6_takeOpening_8 : decode cX6_takeOpening 8 = .ok (.invokevirtual 61, 3) := by decide +kernel
theorem dX6_takeOpening_11 : decode cX6_takeOpening 11 = .ok (.iconst 0, 1) := by decide +kernel
theorem dX6_takeOpening_12 : decode cX6_takeOpening 12 = .ok (.ireturn, 1) := by decide +kernel
theorem dX6_takeOpening_13 : decode cX6_takeOpening 13 = .ok (.aload_n 0, 1) := by decide +kernel
theorem dX6_takeOpening_14 : decode cX6_takeOpening 14 = .ok (.dup, 1) := by decide +kernel
theorem dX6_takeOpening_15 : decode cX6_takeOpening 15 = .ok (.getfield 26, 3) := by decide +kernel
theorem dX6_takeOpening_18 : decode cX6_takeOpening 18 = .ok (.iconst 1, 1) := by decide +kernel
theorem dX6_takeOpening_19 : decode cX6_takeOpening 19 = .ok (.iadd, 1) := by decide +kernel
theorem dX6_takeOpening_20 : decode cX6_takeOpening 20 = .ok (.putfield 26, 3) := by decide +kernel
theorem dX6_takeOpening_23 : decode cX6_takeOpening 23 = .ok (.iconst 1, 1) := by decide +kernel
theorem dX6_takeOpening_24 : decode cX6_takeOpening 24 = .ok (.ireturn, 1) := by decide +kernel
theorem dX6_readClause_0 : decode cX6_readClause 0 = .ok (.aload_n 0, 1) := by decide +kernel
theorem dX6_readClause_1 : decode cX6_readClause 1 = .ok (.invokevirtual 58, 3) := by decide +kernel
theorem dX6_readClause_4 : decode cX6_readClause 4 = .ok (.istore_n 1, 1) := by decide +kernel
theorem dX6_readClause_5 : decode cX6_readClause 5 = .ok (.aload_n 0, 1) := by decide +kernel
theorem dX6_readClause_6 : decode cX6_readClause 6 = .ok (.getfield 29, 3) := by decide +kernel
theorem dX6_readClause_9 : decode cX6_readClause 9 = .ok (.ifCond .eq 4, 3) := by decide +kernel
theorem dX6_readClause_12 : decode cX6_readClause 12 = .ok (.return_, 1) := by decide +kernel
theorem dX6_readClause_13 : decode cX6_readClause 13 = .ok (.iload_n 1, 1) := by decide +kernel
theorem dX6_readClause_14 : decode cX6_readClause 14 = .ok (.bipush 110, 2) := by decide +kernel
theorem dX6_readClause_16 : decode cX6_readClause 16 = .ok (.if_icmp .eq 23, 3) := by decide +kernel
theorem dX6_readClause_19 : decode cX6_readClause 19 = .ok (.iload_n 1, 1) := by decide +kernel
theorem dX6_readClause_20 : decode cX6_readClause 20 = .ok (.bipush 114, 2) := by decide +kernel
theorem dX6_readClause_22 : decode cX6_readClause 22 = .ok (.if_icmp .eq 17, 3) := by decide +kernel
theorem dX6_readClause_25 : decode cX6_readClause 25 = .ok (.iload_n 1, 1) := by decide +kernel
theorem dX6_readClause_26 : decode cX6_readClause 26 = .ok (.bipush 115, 2) := by decide +kernel
theorem dX6_readClause_28 : decode cX6_readClause 28 = .ok (.if_icmp .eq 11, 3) := by decide +kernel
theorem dX6_readClause_31 : decode cX6_readClause 31 = .ok (.aload_n 0, 1) := by decide +kernel
theorem dX6_readClause_32 : decode cX6_readClause 32 = .ok (.iconst 1, 1) := by decide +kernel
theorem dX6_readClause_33 : decode cX6_readClause 33 = .ok (.invokevirtual 61, 3) := by decide +kernel
theorem dX6_readClause_36 : decode cX6_readClause 36 = .ok (.goto 81, 3) := by decide +kernel
theorem dX6_readClause_39 : decode cX6_readClause 39 = .ok (.aload_n 0, 1) := by decide +kernel
theorem dX6_readClause_40 : decode cX6_readClause 40 = .ok (.getfield 18, 3) := by decide +kernel
theorem dX6_readClause_43 : decode cX6_readClause 43 = .ok (.invokevirtual 64, 3) := by decide +kernel
theorem dX6_readClause_46 : decode cX6_readClause 46 = .ok (.ifCond .eq 11, 3) := by decide +kernel
theorem dX6_readClause_49 : decode cX6_readClause 49 = .ok (.aload_n 0, 1) := by decide +kernel
theorem dX6_readClause_50 : decode cX6_readClause 50 = .ok (.iconst 4, 1) := by decide +kernel
theorem dX6_readClause_51 : decode cX6_readClause 51 = .ok (.invokevirtual 61, 3) := by decide +kernel
theorem dX6_readClause_54 : decode cX6_readClause 54 = .ok (.goto 63, 3) := by decide +kernel
theorem dX6_readClause_57 : decode cX6_readClause 57 = .ok (.aload_n 0, 1) := by decide +kernel
theorem dX6_readClause_58 : decode cX6_readClause 58 = .ok (.dup, 1) := by decide +kernel
theorem dX6_readClause_59 : decode cX6_readClause 59 = .ok (.getfield 26, 3) := by decide +kernel
theorem dX6_readClause_62 : decode cX6_readClause 62 = .ok (.iconst 1, 1) := by decide +kernel
theorem dX6_readClause_63 : decode cX6_readClause 63 = .ok (.iadd, 1) := by decide +kernel
theorem dX6_readClause_64 : decode cX6_readClause 64 = .ok (.putfield 26, 3) := by decide +kernel
theorem dX6_readClause_67 : decode cX6_readClause 67 = .ok (.aload_n 0, 1) := by decide +kernel
theorem dX6_readClause_68 : decode cX6_readClause 68 = .ok (.getfield 18, 3) := by decide +kernel
theorem dX6_readClause_71 : decode cX6_readClause 71 = .ok (.iload_n 1, 1) := by decide +kernel
theorem dX6_readClause_72 : decode cX6_readClause 72 = .ok (.invokevirtual 68, 3) := by decide +kernel
theorem dX6_readClause_75 : decode cX6_readClause 75 = .ok (.iload_n 1, 1) := by decide +kernel
theorem dX6_readClause_76 : decode cX6_readClause 76 = .ok (.bipush 110, 2) := by decide +kernel
theorem dX6_readClause_78 : decode cX6_readClause 78 = .ok (.if_icmp .eq 8, 3) := by decide +kernel
theorem dX6_readClause_81 : decode cX6_readClause 81 = .ok (.aload_n 0, 1) := by decide +kernel
theorem dX6_readClause_82 : decode cX6_readClause 82 = .ok (.iconst 0, 1) := by decide +kernel
theorem dX6_readClause_83 : decode cX6_readClause 83 = .ok (.invokevirtual 71, 3) := by decide +kernel
theorem dX6_readClause_86 : decode cX6_readClause 86 = .ok (.aload_n 0, 1) := by decide +kernel
theorem dX6_readClause_87 : decode cX6_readClause 87 = .ok (.getfield 18, 3) := by decide +kernel
theorem dX6_readClause_90 : decode cX6_readClause 90 = .ok (.invokevirtual 74, 3) := by decide +kernel
theorem dX6_readClause_93 : decode cX6_readClause 93 = .ok (.aload_n 0, 1) := by decide +kernel
theorem dX6_readClause_94 : decode cX6_readClause 94 = .ok (.bipush 40, 2) := by decide +kernel
theorem dX6_readClause_96 : decode cX6_readClause 96 = .ok (.invokevirtual 50, 3) := by decide +kernel
theorem dX6_readClause_99 : decode cX6_readClause 99 = .ok (.aload_n 0, 1) := by decide +kernel
theorem dX6_readClause_100 : decode cX6_readClause 100 = .ok (.iconst 1, 1) := by decide +kernel
theorem dX6_readClause_101 : decode cX6_readClause 101 = .ok (.invokevirtual 77, 3) := by decide +kernel
theorem dX6_readClause_104 : decode cX6_readClause 104 = .ok (.aload_n 0, 1) := by decide +kernel
theorem dX6_readClause_105 : decode cX6_readClause 105 = .ok (.bipush 41, 2) := by decide +kernel
theorem dX6_readClause_107 : decode cX6_readClause 107 = .ok (.invokevirtual 50, 3) := by decide +kernel
theorem dX6_readClause_110 : decode cX6_readClause 110 = .ok (.aload_n 0, 1) := by decide +kernel
theorem dX6_readClause_111 : decode cX6_readClause 111 = .ok (.getfield 18, 3) := by decide +kernel
theorem dX6_readClause_114 : decode cX6_readClause 114 = .ok (.invokevirtual 80, 3) := by decide +kernel
theorem dX6_readClause_117 : decode cX6_readClause 117 = .ok (.return_, 1) := by decide +kernel
theorem dX6_readChoice_0 : decode cX6_readChoice 0 = .ok (.iconst (-1), 1) := by decide +kernel
theorem dX6_readChoice_1 : decode cX6_readChoice 1 = .ok (.istore_n 2, 1) := by decide +kernel
theorem dX6_readChoice_2 : decode cX6_readChoice 2 = .ok (.aload_n 0, 1) := by decide +kernel
theorem dX6_readChoice_3 : decode cX6_readChoice 3 = .ok (.iload_n 1, 1) := by decide +kernel
theorem dX6_readChoice_4 : decode cX6_readChoice 4 = .ok (.invokevirtual 83, 3) := by decide +kernel
theorem dX6_readChoice_7 : decode cX6_readChoice 7 = .ok (.iconst 0, 1) := by decide +kernel
theorem dX6_readChoice_8 : decode cX6_readChoice 8 = .ok (.istore_n 3, 1) := by decide +kernel
theorem dX6_readChoice_9 : decode cX6_readChoice 9 = .ok (.iload_n 3, 1) := by decide +kernel
theorem dX6_readChoice_10 : decode cX6_readChoice 10 = .ok (.aload_n 0, 1) := by decide +kernel
theorem dX6_readChoice_11 : decode cX6_readChoice 11 = .ok (.getfield 22, 3) := by decide +kernel
theorem dX6_readChoice_14 : decode cX6_readChoice 14 = .ok (.if_icmp .ge 51, 3) := by decide +kernel
theorem dX6_readChoice_17 : decode cX6_readChoice 17 = .ok (.aload_n 0, 1) := by decide +kernel
theorem dX6_readChoice_18 : decode cX6_readChoice 18 = .ok (.getfield 29, 3) := by decide +kernel
theorem dX6_readChoice_21 : decode cX6_readChoice 21 = .ok (.ifCond .ne 44, 3) := by decide +kernel
theorem dX6_readChoice_24 : decode cX6_readChoice 24 = .ok (.aload_n 0, 1) := by decide +kernel
theorem dX6_readChoice_25 : decode cX6_readChoice 25 = .ok (.invokevirtual 58, 3) := by decide +kernel
theorem dX6_readChoice_28 : decode cX6_readChoice 28 = .ok (.bipush 124, 2) := by decide +kernel
theorem dX6_readChoice_30 : decode cX6_readChoice 30 = .ok (.if_icmp .ne 35, 3) := by decide +kernel
theorem dX6_readChoice_33 : decode cX6_readChoice 33 = .ok (.aload_n 0, 1) := by decide +kernel
theorem dX6_readChoice_34 : decode cX6_readChoice 34 = .ok (.dup, 1) := by decide +kernel
theorem dX6_readChoice_35 : decode cX6_readChoice 35 = .ok (.getfield 26, 3) := by decide +kernel
theorem dX6_readChoice_38 : decode cX6_readChoice 38 = .ok (.iconst 1, 1) := by decide +kernel
theorem dX6_readChoice_39 : decode cX6_readChoice 39 = .ok (.iadd, 1) := by decide +kernel
theorem dX6_readChoice_40 : decode cX6_readChoice 40 = .ok (.putfield 26, 3) := by decide +kernel
theorem dX6_readChoice_43 : decode cX6_readChoice 43 = .ok (.aload_n 0, 1) := by decide +kernel
theorem dX6_readChoice_44 : decode cX6_readChoice 44 = .ok (.getfield 18, 3) := by decide +kernel
theorem dX6_readChoice_47 : decode cX6_readChoice 47 = .ok (.bipush 11, 2) := by decide +kernel
theorem dX6_readChoice_49 : decode cX6_readChoice 49 = .ok (.iload_n 2, 1) := by decide +kernel
theorem dX6_readChoice_50 : decode cX6_readChoice 50 = .ok (.invokevirtual 88, 3) := by decide +kernel
theorem dX6_readChoice_53 : decode cX6_readChoice 53 = .ok (.istore_n 2, 1) := by decide +kernel
theorem dX6_readChoice_54 : decode cX6_readChoice 54 = .ok (.aload_n 0, 1) := by decide +kernel
theorem dX6_readChoice_55 : decode cX6_readChoice 55 = .ok (.iload_n 1, 1) := by decide +kernel
theorem dX6_readChoice_56 : decode cX6_readChoice 56 = .ok (.invokevirtual 83, 3) := by decide +kernel
theorem dX6_readChoice_59 : decode cX6_readChoice 59 = .ok (.iinc 3 1, 3) := by decide +kernel
theorem dX6_readChoice_62 : decode cX6_readChoice 62 = .ok (.goto (-53), 3) := by decide +kernel
theorem dX6_readChoice_65 : decode cX6_readChoice 65 = .ok (.aload_n 0, 1) := by decide +kernel
theorem dX6_readChoice_66 : decode cX6_readChoice 66 = .ok (.getfield 18, 3) := by decide +kernel
theorem dX6_readChoice_69 : decode cX6_readChoice 69 = .ok (.iload_n 2, 1) := by decide +kernel
theorem dX6_readChoice_70 : decode cX6_readChoice 70 = .ok (.invokevirtual 91, 3) := by decide +kernel
theorem dX6_readChoice_73 : decode cX6_readChoice 73 = .ok (.return_, 1) := by decide +kernel
theorem dX6_readPart_0 : decode cX6_readPart 0 = .ok (.iconst (-1), 1) := by decide +kernel
theorem dX6_readPart_1 : decode cX6_readPart 1 = .ok (.istore_n 2, 1) := by decide +kernel
theorem dX6_readPart_2 : decode cX6_readPart 2 = .ok (.aload_n 0, 1) := by decide +kernel
theorem dX6_readPart_3 : decode cX6_readPart 3 = .ok (.iload_n 1, 1) := by decide +kernel
theorem dX6_readPart_4 : decode cX6_readPart 4 = .ok (.invokevirtual 94, 3) := by decide +kernel
theorem dX6_readPart_7 : decode cX6_readPart 7 = .ok (.iconst 0, 1) := by decide +kernel
theorem dX6_readPart_8 : decode cX6_readPart 8 = .ok (.istore_n 3, 1) := by decide +kernel
theorem dX6_readPart_9 : decode cX6_readPart 9 = .ok (.iload_n 3, 1) := by decide +kernel
theorem dX6_readPart_10 : decode cX6_readPart 10 = .ok (.aload_n 0, 1) := by decide +kernel
theorem dX6_readPart_11 : decode cX6_readPart 11 = .ok (.getfield 22, 3) := by decide +kernel
theorem dX6_readPart_14 : decode cX6_readPart 14 = .ok (.if_icmp .ge 51, 3) := by decide +kernel
theorem dX6_readPart_17 : decode cX6_readPart 17 = .ok (.aload_n 0, 1) := by decide +kernel
theorem dX6_readPart_18 : decode cX6_readPart 18 = .ok (.getfield 29, 3) := by decide +kernel
theorem dX6_readPart_21 : decode cX6_readPart 21 = .ok (.ifCond .ne 44, 3) := by decide +kernel
theorem dX6_readPart_24 : decode cX6_readPart 24 = .ok (.aload_n 0, 1) := by decide +kernel
theorem dX6_readPart_25 : decode cX6_readPart 25 = .ok (.invokevirtual 58, 3) := by decide +kernel
theorem dX6_readPart_28 : decode cX6_readPart 28 = .ok (.bipush 38, 2) := by decide +kernel
theorem dX6_readPart_30 : decode cX6_readPart 30 = .ok (.if_icmp .ne 35, 3) := by decide +kernel
theorem dX6_readPart_33 : decode cX6_readPart 33 = .ok (.aload_n 0, 1) := by decide +kernel
theorem dX6_readPart_34 : decode cX6_readPart 34 = .ok (.dup, 1) := by decide +kernel
theorem dX6_readPart_35 : decode cX6_readPart 35 = .ok (.getfield 26, 3) := by decide +kernel
theorem dX6_readPart_38 : decode cX6_readPart 38 = .ok (.iconst 1, 1) := by decide +kernel
theorem dX6_readPart_39 : decode cX6_readPart 39 = .ok (.iadd, 1) := by decide +kernel
theorem dX6_readPart_40 : decode cX6_readPart 40 = .ok (.putfield 26, 3) := by decide +kernel
theorem dX6_readPart_43 : decode cX6_readPart 43 = .ok (.aload_n 0, 1) := by decide +kernel
theorem dX6_readPart_44 : decode cX6_readPart 44 = .ok (.getfield 18, 3) := by decide +kernel
theorem dX6_readPart_47 : decode cX6_readPart 47 = .ok (.bipush 12, 2) := by decide +kernel
theorem dX6_readPart_49 : decode cX6_readPart 49 = .ok (.iload_n 2, 1) := by decide +kernel
theorem dX6_readPart_50 : decode cX6_readPart 50 = .ok (.invokevirtual 88, 3) := by decide +kernel
theorem dX6_readPart_53 : decode cX6_readPart 53 = .ok (.istore_n 2, 1) := by decide +kernel
theorem dX6_readPart_54 : decode cX6_readPart 54 = .ok (.aload_n 0, 1) := by decide +kernel
theorem dX6_readPart_55 : decode cX6_readPart 55 = .ok (.iload_n 1, 1) := by decide +kernel
theorem dX6_readPart_56 : decode cX6_readPart 56 = .ok (.invokevirtual 94, 3) := by decide +kernel
theorem dX6_readPart_59 : decode cX6_readPart 59 = .ok (.iinc 3 1, 3) := by decide +kernel
theorem dX6_readPart_62 : decode cX6_readPart 62 = .ok (.goto (-53), 3) := by decide +kernel
theorem dX6_readPart_65 : decode cX6_readPart 65 = .ok (.aload_n 0, 1) := by decide +kernel
theorem dX6_readPart_66 : decode cX6_readPart 66 = .ok (.getfield 18, 3) := by decide +kernel
theorem dX6_readPart_69 : decode cX6_readPart 69 = .ok (.iload_n 2, 1) := by decide +kernel
theorem dX6_readPart_70 : decode cX6_readPart 70 = .ok (.invokevirtual 91, 3) := by decide +kernel
theorem dX6_readPart_73 : decode cX6_readPart 73 = .ok (.return_, 1) := by decide +kernel
theorem dX6_readPiece_0 : decode cX6_readPiece 0 = .ok (.aload_n 0, 1) := by decide +kernel
theorem dX6_readPiece_1 : decode cX6_readPiece 1 = .ok (.invokevirtual 58, 3) := by decide +kernel
theorem dX6_readPiece_4 : decode cX6_readPiece 4 = .ok (.istore_n 2, 1) := by decide +kernel
theorem dX6_readPiece_5 : decode cX6_readPiece 5 = .ok (.aload_n 0, 1) := by decide +kernel
theorem dX6_readPiece_6 : decode cX6_readPiece 6 = .ok (.getfield 29, 3) := by decide +kernel
theorem dX6_readPiece_9 : decode cX6_readPiece 9 = .ok (.ifCond .ne 9, 3) := by decide +kernel
theorem dX6_readPiece_12 : decode cX6_readPiece 12 = .ok (.iload_n 1, 1) := by decide +kernel
theorem dX6_readPiece_13 : decode cX6_readPiece 13 = .ok (.bipush 6, 2) := by decide +kernel
theorem dX6_readPiece_15 : decode cX6_readPiece 15 = .ok (.if_icmp .le 4, 3) := by decide +kernel
theorem dX6_readPiece_18 : decode cX6_readPiece 18 = .ok (.return_, 1) := by decide +kernel
theorem dX6_readPiece_19 : decode cX6_readPiece 19 = .ok (.iload_n 2, 1) := by decide +kernel
theorem dX6_readPiece_20 : decode cX6_readPiece 20 = .ok (.bipush 33, 2) := by decide +kernel
theorem dX6_readPiece_22 : decode cX6_readPiece 22 = .ok (.if_icmp .ne 31, 3) := by decide +kernel
theorem dX6_readPiece_25 : decode cX6_readPiece 25 = .ok (.aload_n 0, 1) := by decide +kernel
theorem dX6_readPiece_26 : decode cX6_readPiece 26 = .ok (.iload_n 1, 1) := by decide +kernel
theorem dX6_readPiece_27 : decode cX6_readPiece 27 = .ok (.invokevirtual 97, 3) := by decide +kernel
theorem dX6_readPiece_30 : decode cX6_readPiece 30 = .ok (.ifCond .eq 77, 3) := by decide +kernel
theorem dX6_readPiece_33 : decode cX6_readPiece 33 = .ok (.aload_n 0, 1) := by decide +kernel
theorem dX6_readPiece_34 : decode cX6_readPiece 34 = .ok (.iload_n 1, 1) := by decide +kernel
theorem dX6_readPiece_35 : decode cX6_readPiece 35 = .ok (.iconst 1, 1) := by decide +kernel
theorem dX6_readPiece_36 : decode cX6_readPiece 36 = .ok (.iadd, 1) := by decide +kernel
theorem dX6_readPiece_37 : decode cX6_readPiece 37 = .ok (.invokevirtual 94, 3) := by decide +kernel
theorem dX6_readPiece_40 : decode cX6_readPiece 40 = .ok (.aload_n 0, 1) := by decide +kernel
theorem dX6_readPiece_41 : decode cX6_readPiece 41 = .ok (.getfield 18, 3) := by decide +kernel
theorem dX6_readPiece_44 : decode cX6_readPiece 44 = .ok (.bipush 10, 2) := by decide +kernel
theorem dX6_readPiece_46 : decode cX6_readPiece 46 = .ok (.iconst 0, 1) := by decide +kernel
theorem dX6_readPiece_47 : decode cX6_readPiece 47 = .ok (.invokevirtual 101, 3) := by decide +kernel
theorem dX6_readPiece_50 : decode cX6_readPiece 50 = .ok (.goto 57, 3) := by decide +kernel
theorem dX6_readPiece_53 : decode cX6_readPiece 53 = .ok (.iload_n 2, 1) := by decide +kernel
theorem dX6_readPiece_54 : decode cX6_readPiece 54 = .ok (.bipush 40, 2) := by decide +kernel
theorem dX6_readPiece_56 : decode cX6_readPiece 56 = .ok (.if_icmp .ne 27, 3) := by decide +kernel
theorem dX6_readPiece_59 : decode cX6_readPiece 59 = .ok (.aload_n 0, 1) := by decide +kernel
theorem dX6_readPiece_60 : decode cX6_readPiece 60 = .ok (.iload_n 1, 1) := by decide +kernel
theorem dX6_readPiece_61 : decode cX6_readPiece 61 = .ok (.invokevirtual 97, 3) := by decide +kernel
theorem dX6_readPiece_64 : decode cX6_readPiece 64 = .ok (.ifCond .eq 43, 3) := by decide +kernel
theorem dX6_readPiece_67 : decode cX6_readPiece 67 = .ok (.aload_n 0, 1) := by decide +kernel
theorem dX6_readPiece_68 : decode cX6_readPiece 68 = .ok (.iload_n 1, 1) := by decide +kernel
theorem dX6_readPiece_69 : decode cX6_readPiece 69 = .ok (.iconst 1, 1) := by decide +kernel
theorem dX6_readPiece_70 : decode cX6_readPiece 70 = .ok (.iadd, 1) := by decide +kernel
theorem dX6_readPiece_71 : decode cX6_readPiece 71 = .ok (.invokevirtual 77, 3) := by decide +kernel
theorem dX6_readPiece_74 : decode cX6_readPiece 74 = .ok (.aload_n 0, 1) := by decide +kernel
theorem dX6_readPiece_75 : decode cX6_readPiece 75 = .ok (.bipush 41, 2) := by decide +kernel
theorem dX6_readPiece_77 : decode cX6_readPiece 77 = .ok (.invokevirtual 50, 3) := by decide +kernel
theorem dX6_readPiece_80 : decode cX6_readPiece 80 = .ok (.goto 27, 3) := by decide +kernel
theorem dX6_readPiece_83 : decode cX6_readPiece 83 = .ok (.aload_n 0, 1) := by decide +kernel
theorem dX6_readPiece_84 : decode cX6_readPiece 84 = .ok (.iload_n 1, 1) := by decide +kernel
theorem dX6_readPiece_85 : decode cX6_readPiece 85 = .ok (.invokevirtual 71, 3) := by decide +kernel
theorem dX6_readPiece_88 : decode cX6_readPiece 88 = .ok (.aload_n 0, 1) := by decide +kernel
theorem dX6_readPiece_89 : decode cX6_readPiece 89 = .ok (.invokevirtual 105, 3) := by decide +kernel
theorem dX6_readPiece_92 : decode cX6_readPiece 92 = .ok (.istore_n 3, 1) := by decide +kernel
theorem dX6_readPiece_93 : decode cX6_readPiece 93 = .ok (.aload_n 0, 1) := by decide +kernel
theorem dX6_readPiece_94 : decode cX6_readPiece 94 = .ok (.iload_n 1, 1) := by decide +kernel
theorem dX6_readPiece_95 : decode cX6_readPiece 95 = .ok (.invokevirtual 71, 3) := by decide +kernel
theorem dX6_readPiece_98 : decode cX6_readPiece 98 = .ok (.aload_n 0, 1) := by decide +kernel
theorem dX6_readPiece_99 : decode cX6_readPiece 99 = .ok (.getfield 18, 3) := by decide +kernel
theorem dX6_readPiece_102 : decode cX6_readPiece 102 = .ok (.iload_n 3, 1) := by decide +kernel
theorem dX6_readPiece_103 : decode cX6_readPiece 103 = .ok (.iconst 0, 1) := by decide +kernel
theorem dX6_readPiece_104 : decode cX6_readPiece 104 = .ok (.invokevirtual 101, 3) := by decide +kernel
theorem dX6_readPiece_107 : decode cX6_readPiece 107 = .ok (.return_, 1) := by decide +kernel
theorem dX6_readComparing_0 : decode cX6_readComparing 0 = .ok (.aload_n 0, 1) := by decide +kernel
theorem dX6_readComparing_1 : decode cX6_readComparing 1 = .ok (.invokevirtual 58, 3) := by decide +kernel
theorem dX6_readComparing_4 : decode cX6_readComparing 4 = .ok (.istore_n 1, 1) := by decide +kernel
theorem dX6_readComparing_5 : decode cX6_readComparing 5 = .ok (.iload_n 1, 1) := by decide +kernel
theorem dX6_readComparing_6 : decode cX6_readComparing 6 = .ok (.bipush 60, 2) := by decide +kernel
theorem dX6_readComparing_8 : decode cX6_readComparing 8 = .ok (.if_icmp .eq 23, 3) := by decide +kernel
theorem dX6_readComparing_11 : decode cX6_readComparing 11 = .ok (.iload_n 1, 1) := by decide +kernel
theorem dX6_readComparing_12 : decode cX6_readComparing 12 = .ok (.bipush 62, 2) := by decide +kernel
theorem dX6_readComparing_14 : decode cX6_readComparing 14 = .ok (.if_icmp .eq 17, 3) := by decide +kernel
theorem dX6_readComparing_17 : decode cX6_readComparing 17 = .ok (.iload_n 1, 1) := by decide +kernel
theorem dX6_readComparing_18 : decode cX6_readComparing 18 = .ok (.bipush 61, 2) := by decide +kernel
theorem dX6_readComparing_20 : decode cX6_readComparing 20 = .ok (.if_icmp .eq 11, 3) := by decide +kernel
theorem dX6_readComparing_23 : decode cX6_readComparing 23 = .ok (.aload_n 0, 1) := by decide +kernel
theorem dX6_readComparing_24 : decode cX6_readComparing 24 = .ok (.iconst 1, 1) := by decide +kernel
theorem dX6_readComparing_25 : decode cX6_readComparing 25 = .ok (.invokevirtual 61, 3) := by decide +kernel
theorem dX6_readComparing_28 : decode cX6_readComparing 28 = .ok (.goto 20, 3) := by decide +kernel
theorem dX6_readComparing_31 : decode cX6_readComparing 31 = .ok (.aload_n 0, 1) := by decide +kernel
theorem dX6_readComparing_32 : decode cX6_readComparing 32 = .ok (.getfield 29, 3) := by decide +kernel
theorem dX6_readComparing_35 : decode cX6_readComparing 35 = .ok (.ifCond .ne 13, 3) := by decide +kernel
theorem dX6_readComparing_38 : decode cX6_readComparing 38 = .ok (.aload_n 0, 1) := by decide +kernel
theorem dX6_readComparing_39 : decode cX6_readComparing 39 = .ok (.dup, 1) := by decide +kernel
theorem dX6_readComparing_40 : decode cX6_readComparing 40 = .ok (.getfield 26, 3) := by decide +kernel
theorem dX6_readComparing_43 : decode cX6_readComparing 43 = .ok (.iconst 1, 1) := by decide +kernel
theorem dX6_readComparing_44 : decode cX6_readComparing 44 = .ok (.iadd, 1) := by decide +kernel
theorem dX6_readComparing_45 : decode cX6_readComparing 45 = .ok (.putfield 26, 3) := by decide +kernel
theorem dX6_readComparing_48 : decode cX6_readComparing 48 = .ok (.iload_n 1, 1) := by decide +kernel
theorem dX6_readComparing_49 : decode cX6_readComparing 49 = .ok (.bipush 60, 2) := by decide +kernel
theorem dX6_readComparing_51 : decode cX6_readComparing 51 = .ok (.if_icmp .ne 8, 3) := by decide +kernel
theorem dX6_readComparing_54 : decode cX6_readComparing 54 = .ok (.bipush 7, 2) := by decide +kernel
theorem dX6_readComparing_56 : decode cX6_readComparing 56 = .ok (.goto 16, 3) := by decide +kernel
theorem dX6_readComparing_59 : decode cX6_readComparing 59 = .ok (.iload_n 1, 1) := by decide +kernel
theorem dX6_readComparing_60 : decode cX6_readComparing 60 = .ok (.bipush 62, 2) := by decide +kernel
theorem dX6_readComparing_62 : decode cX6_readComparing 62 = .ok (.if_icmp .ne 8, 3) := by decide +kernel
theorem dX6_readComparing_65 : decode cX6_readComparing 65 = .ok (.bipush 8, 2) := by decide +kernel
theorem dX6_readComparing_67 : decode cX6_readComparing 67 = .ok (.goto 5, 3) := by decide +kernel
theorem dX6_readComparing_70 : decode cX6_readComparing 70 = .ok (.bipush 9, 2) := by decide +kernel
theorem dX6_readComparing_72 : decode cX6_readComparing 72 = .ok (.ireturn, 1) := by decide +kernel
theorem dX6_readSum_0 : decode cX6_readSum 0 = .ok (.aload_n 0, 1) := by decide +kernel
theorem dX6_readSum_1 : decode cX6_readSum 1 = .ok (.iload_n 1, 1) := by decide +kernel
theorem dX6_readSum_2 : decode cX6_readSum 2 = .ok (.invokevirtual 108, 3) := by decide +kernel
theorem dX6_readSum_5 : decode cX6_readSum 5 = .ok (.iconst 0, 1) := by decide +kernel
theorem dX6_readSum_6 : decode cX6_readSum 6 = .ok (.istore_n 2, 1) := by decide +kernel
theorem dX6_readSum_7 : decode cX6_readSum 7 = .ok (.iload_n 2, 1) := by decide +kernel
theorem dX6_readSum_8 : decode cX6_readSum 8 = .ok (.aload_n 0, 1) := by decide +kernel
theorem dX6_readSum_9 : decode cX6_readSum 9 = .ok (.getfield 22, 3) := by decide +kernel
theorem dX6_readSum_12 : decode cX6_readSum 12 = .ok (.if_icmp .ge 68, 3) := by decide +kernel
theorem dX6_readSum_15 : decode cX6_readSum 15 = .ok (.aload_n 0, 1) := by decide +kernel
theorem dX6_readSum_16 : decode cX6_readSum 16 = .ok (.getfield 29, 3) := by decide +kernel
theorem dX6_readSum_19 : decode cX6_readSum 19 = .ok (.ifCond .ne 61, 3) := by decide +kernel
theorem dX6_readSum_22 : decode cX6_readSum 22 = .ok (.aload_n 0, 1) := by decide +kernel
theorem dX6_readSum_23 : decode cX6_readSum 23 = .ok (.invokevirtual 58, 3) := by decide +kernel
theorem dX6_readSum_26 : decode cX6_readSum 26 = .ok (.istore_n 3, 1) := by decide +kernel
theorem dX6_readSum_27 : decode cX6_readSum 27 = .ok (.iload_n 3, 1) := by decide +kernel
theorem dX6_readSum_28 : decode cX6_readSum 28 = .ok (.bipush 43, 2) := by decide +kernel
theorem dX6_readSum_30 : decode cX6_readSum 30 = .ok (.if_icmp .eq 10, 3) := by decide +kernel
theorem dX6_readSum_33 : decode cX6_readSum 33 = .ok (.iload_n 3, 1) := by decide +kernel
theorem dX6_readSum_34 : decode cX6_readSum 34 = .ok (.bipush 45, 2) := by decide +kernel
theorem dX6_readSum_36 : decode cX6_readSum 36 = .ok (.if_icmp .eq 4, 3) := by decide +kernel
theorem dX6_readSum_39 : decode cX6_readSum 39 = .ok (.return_, 1) := by decide +kernel
theorem dX6_readSum_40 : decode cX6_readSum 40 = .ok (.aload_n 0, 1) := by decide +kernel
theorem dX6_readSum_41 : decode cX6_readSum 41 = .ok (.dup, 1) := by decide +kernel
theorem dX6_readSum_42 : decode cX6_readSum 42 = .ok (.getfield 26, 3) := by decide +kernel
theorem dX6_readSum_45 : decode cX6_readSum 45 = .ok (.iconst 1, 1) := by decide +kernel
theorem dX6_readSum_46 : decode cX6_readSum 46 = .ok (.iadd, 1) := by decide +kernel
theorem dX6_readSum_47 : decode cX6_readSum 47 = .ok (.putfield 26, 3) := by decide +kernel
theorem dX6_readSum_50 : decode cX6_readSum 50 = .ok (.aload_n 0, 1) := by decide +kernel
theorem dX6_readSum_51 : decode cX6_readSum 51 = .ok (.iload_n 1, 1) := by decide +kernel
theorem dX6_readSum_52 : decode cX6_readSum 52 = .ok (.invokevirtual 108, 3) := by decide +kernel
theorem dX6_readSum_55 : decode cX6_readSum 55 = .ok (.aload_n 0, 1) := by decide +kernel
theorem dX6_readSum_56 : decode cX6_readSum 56 = .ok (.getfield 18, 3) := by decide +kernel
theorem dX6_readSum_59 : decode cX6_readSum 59 = .ok (.iload_n 3, 1) := by decide +kernel
theorem dX6_readSum_60 : decode cX6_readSum 60 = .ok (.bipush 43, 2) := by decide +kernel
theorem dX6_readSum_62 : decode cX6_readSum 62 = .ok (.if_icmp .ne 7, 3) := by decide +kernel
theorem dX6_readSum_65 : decode cX6_readSum 65 = .ok (.iconst 2, 1) := by decide +kernel
theorem dX6_readSum_66 : decode cX6_readSum 66 = .ok (.goto 4, 3) := by decide +kernel
theorem dX6_readSum_69 : decode cX6_readSum 69 = .ok (.iconst 3, 1) := by decide +kernel
theorem dX6_readSum_70 : decode cX6_readSum 70 = .ok (.iconst 0, 1) := by decide +kernel
theorem dX6_readSum_71 : decode cX6_readSum 71 = .ok (.invokevirtual 101, 3) := by decide +kernel
theorem dX6_readSum_74 : decode cX6_readSum 74 = .ok (.iinc 2 1, 3) := by decide +kernel
theorem dX6_readSum_77 : decode cX6_readSum 77 = .ok (.goto (-70), 3) := by decide +kernel
theorem dX6_readSum_80 : decode cX6_readSum 80 = .ok (.return_, 1) := by decide +kernel
theorem dX6_readTerm_0 : decode cX6_readTerm 0 = .ok (.aload_n 0, 1) := by decide +kernel
theorem dX6_readTerm_1 : decode cX6_readTerm 1 = .ok (.iload_n 1, 1) := by decide +kernel
theorem dX6_readTerm_2 : decode cX6_readTerm 2 = .ok (.invokevirtual 111, 3) := by decide +kernel
theorem dX6_readTerm_5 : decode cX6_readTerm 5 = .ok (.iconst 0, 1) := by decide +kernel
theorem dX6_readTerm_6 : decode cX6_readTerm 6 = .ok (.istore_n 2, 1) := by decide +kernel
theorem dX6_readTerm_7 : decode cX6_readTerm 7 = .ok (.iload_n 2, 1) := by decide +kernel
theorem dX6_readTerm_8 : decode cX6_readTerm 8 = .ok (.aload_n 0, 1) := by decide +kernel
theorem dX6_readTerm_9 : decode cX6_readTerm 9 = .ok (.getfield 22, 3) := by decide +kernel
theorem dX6_readTerm_12 : decode cX6_readTerm 12 = .ok (.if_icmp .ge 85, 3) := by decide +kernel
theorem dX6_readTerm_15 : decode cX6_readTerm 15 = .ok (.aload_n 0, 1) := by decide +kernel
theorem dX6_readTerm_16 : decode cX6_readTerm 16 = .ok (.getfield 29, 3) := by decide +kernel
theorem dX6_readTerm_19 : decode cX6_readTerm 19 = .ok (.ifCond .ne 78, 3) := by decide +kernel
theorem dX6_readTerm_22 : decode cX6_readTerm 22 = .ok (.aload_n 0, 1) := by decide +kernel
theorem dX6_readTerm_23 : decode cX6_readTerm 23 = .ok (.invokevirtual 58, 3) := by decide +kernel
theorem dX6_readTerm_26 : decode cX6_readTerm 26 = .ok (.istore_n 3, 1) := by decide +kernel
theorem dX6_readTerm_27 : decode cX6_readTerm 27 = .ok (.iload_n 3, 1) := by decide +kernel
theorem dX6_readTerm_28 : decode cX6_readTerm 28 = .ok (.bipush 42, 2) := by decide +kernel
theorem dX6_readTerm_30 : decode cX6_readTerm 30 = .ok (.if_icmp .eq 16, 3) := by decide +kernel
theorem dX6_readTerm_33 : decode cX6_readTerm 33 = .ok (.iload_n 3, 1) := by decide +kernel
theorem dX6_readTerm_34 : decode cX6_readTerm 34 = .ok (.bipush 47, 2) := by decide +kernel
theorem dX6_readTerm_36 : decode cX6_readTerm 36 = .ok (.if_icmp .eq 10, 3) := by decide +kernel
theorem dX6_readTerm_39 : decode cX6_readTerm 39 = .ok (.iload_n 3, 1) := by decide +kernel
theorem dX6_readTerm_40 : decode cX6_readTerm 40 = .ok (.bipush 37, 2) := by decide +kernel
theorem dX6_readTerm_42 : decode cX6_readTerm 42 = .ok (.if_icmp .eq 4, 3) := by decide +kernel
theorem dX6_readTerm_45 : decode cX6_readTerm 45 = .ok (.return_, 1) := by decide +kernel
theorem dX6_readTerm_46 : decode cX6_readTerm 46 = .ok (.aload_n 0, 1) := by decide +kernel
theorem dX6_readTerm_47 : decode cX6_readTerm 47 = .ok (.dup, 1) := by decide +kernel
theorem dX6_readTerm_48 : decode cX6_readTerm 48 = .ok (.getfield 26, 3) := by decide +kernel
theorem dX6_readTerm_51 : decode cX6_readTerm 51 = .ok (.iconst 1, 1) := by decide +kernel
theorem dX6_readTerm_52 : decode cX6_readTerm 52 = .ok (.iadd, 1) := by decide +kernel
theorem dX6_readTerm_53 : decode cX6_readTerm 53 = .ok (.putfield 26, 3) := by decide +kernel
theorem dX6_readTerm_56 : decode cX6_readTerm 56 = .ok (.aload_n 0, 1) := by decide +kernel
theorem dX6_readTerm_57 : decode cX6_readTerm 57 = .ok (.iload_n 1, 1) := by decide +kernel
theorem dX6_readTerm_58 : decode cX6_readTerm 58 = .ok (.invokevirtual 111, 3) := by decide +kernel
theorem dX6_readTerm_61 : decode cX6_readTerm 61 = .ok (.aload_n 0, 1) := by decide +kernel
theorem dX6_readTerm_62 : decode cX6_readTerm 62 = .ok (.getfield 18, 3) := by decide +kernel
theorem dX6_readTerm_65 : decode cX6_readTerm 65 = .ok (.iload_n 3, 1) := by decide +kernel
theorem dX6_readTerm_66 : decode cX6_readTerm 66 = .ok (.bipush 42, 2) := by decide +kernel
theorem dX6_readTerm_68 : decode cX6_readTerm 68 = .ok (.if_icmp .ne 7, 3) := by decide +kernel
theorem dX6_readTerm_71 : decode cX6_readTerm 71 = .ok (.iconst 4, 1) := by decide +kernel
theorem dX6_readTerm_72 : decode cX6_readTerm 72 = .ok (.goto 15, 3) := by decide +kernel
theorem dX6_readTerm_75 : decode cX6_readTerm 75 = .ok (.iload_n 3, 1) := by decide +kernel
theorem dX6_readTerm_76 : decode cX6_readTerm 76 = .ok (.bipush 47, 2) := by decide +kernel
theorem dX6_readTerm_78 : decode cX6_readTerm 78 = .ok (.if_icmp .ne 7, 3) := by decide +kernel
theorem dX6_readTerm_81 : decode cX6_readTerm 81 = .ok (.iconst 5, 1) := by decide +kernel
theorem dX6_readTerm_82 : decode cX6_readTerm 82 = .ok (.goto 5, 3) := by decide +kernel
theorem dX6_readTerm_85 : decode cX6_readTerm 85 = .ok (.bipush 6, 2) := by decide +kernel
theorem dX6_readTerm_87 : decode cX6_readTerm 87 = .ok (.iconst 0, 1) := by decide +kernel
theorem dX6_readTerm_88 : decode cX6_readTerm 88 = .ok (.invokevirtual 101, 3) := by decide +kernel
theorem dX6_readTerm_91 : decode cX6_readTerm 91 = .ok (.iinc 2 1, 3) := by decide +kernel
theorem dX6_readTerm_94 : decode cX6_readTerm 94 = .ok (.goto (-87), 3) := by decide +kernel
theorem dX6_readTerm_97 : decode cX6_readTerm 97 = .ok (.return_, 1) := by decide +kernel
theorem dX6_readFactor_0 : decode cX6_readFactor 0 = .ok (.aload_n 0, 1) := by decide +kernel
theorem dX6_readFactor_1 : decode cX6_readFactor 1 = .ok (.invokevirtual 58, 3) := by decide +kernel
theorem dX6_readFactor_4 : decode cX6_readFactor 4 = .ok (.istore_n 2, 1) := by decide +kernel
theorem dX6_readFactor_5 : decode cX6_readFactor 5 = .ok (.aload_n 0, 1) := by decide +kernel
theorem dX6_readFactor_6 : decode cX6_readFactor 6 = .ok (.getfield 29, 3) := by decide +kernel
theorem dX6_readFactor_9 : decode cX6_readFactor 9 = .ok (.ifCond .ne 9, 3) := by decide +kernel
theorem dX6_readFactor_12 : decode cX6_readFactor 12 = .ok (.iload_n 1, 1) := by decide +kernel
theorem dX6_readFactor_13 : decode cX6_readFactor 13 = .ok (.bipush 6, 2) := by decide +kernel
theorem dX6_readFactor_15 : decode cX6_readFactor 15 = .ok (.if_icmp .le 4, 3) := by decide +kernel
theorem dX6_readFactor_18 : decode cX6_readFactor 18 = .ok (.return_, 1) := by decide +kernel
theorem dX6_readFactor_19 : decode cX6_readFactor 19 = .ok (.iload_n 2, 1) := by decide +kernel
theorem dX6_readFactor_20 : decode cX6_readFactor 20 = .ok (.bipush 91, 2) := by decide +kernel
theorem dX6_readFactor_22 : decode cX6_readFactor 22 = .ok (.if_icmp .ne 27, 3) := by decide +kernel
theorem dX6_readFactor_25 : decode cX6_readFactor 25 = .ok (.aload_n 0, 1) := by decide +kernel
theorem dX6_readFactor_26 : decode cX6_readFactor 26 = .ok (.iload_n 1, 1) := by decide +kernel
theorem dX6_readFactor_27 : decode cX6_readFactor 27 = .ok (.invokevirtual 97, 3) := by decide +kernel
theorem dX6_readFactor_30 : decode cX6_readFactor 30 = .ok (.ifCond .eq 77, 3) := by decide +kernel
theorem dX6_readFactor_33 : decode cX6_readFactor 33 = .ok (.aload_n 0, 1) := by decide +kernel
theorem dX6_readFactor_34 : decode cX6_readFactor 34 = .ok (.iload_n 1, 1) := by decide +kernel
theorem dX6_readFactor_35 : decode cX6_readFactor 35 = .ok (.iconst 1, 1) := by decide +kernel
theorem dX6_readFactor_36 : decode cX6_readFactor 36 = .ok (.iadd, 1) := by decide +kernel
theorem dX6_readFactor_37 : decode cX6_readFactor 37 = .ok (.invokevirtual 71, 3) := by decide +kernel
theorem dX6_readFactor_40 : decode cX6_readFactor 40 = .ok (.aload_n 0, 1) := by decide +kernel
theorem dX6_readFactor_41 : decode cX6_readFactor 41 = .ok (.bipush 93, 2) := by decide +kernel
theorem dX6_readFactor_43 : decode cX6_readFactor 43 = .ok (.invokevirtual 50, 3) := by decide +kernel
theorem dX6_readFactor_46 : decode cX6_readFactor 46 = .ok (.goto 61, 3) := by decide +kernel
theorem dX6_readFactor_49 : decode cX6_readFactor 49 = .ok (.iload_n 2, 1) := by decide +kernel
theorem dX6_readFactor_50 : decode cX6_readFactor 50 = .ok (.invokestatic 114, 3) := by decide +kernel
theorem dX6_readFactor_53 : decode cX6_readFactor 53 = .ok (.ifCond .eq 10, 3) := by decide +kernel
theorem dX6_readFactor_56 : decode cX6_readFactor 56 = .ok (.aload_n 0, 1) := by decide +kernel
theorem dX6_readFactor_57 : decode cX6_readFactor 57 = .ok (.invokevirtual 117, 3) := by decide +kernel
theorem dX6_readFactor_60 : decode cX6_readFactor 60 = .ok (.goto 47, 3) := by decide +kernel
theorem dX6_readFactor_63 : decode cX6_readFactor 63 = .ok (.iload_n 2, 1) := by decide +kernel
theorem dX6_readFactor_64 : decode cX6_readFactor 64 = .ok (.ifCond .le 38, 3) := by decide +kernel
theorem dX6_readFactor_67 : decode cX6_readFactor 67 = .ok (.ldc 120, 2) := by decide +kernel
theorem dX6_readFactor_69 : decode cX6_readFactor 69 = .ok (.iload_n 2, 1) := by decide +kernel
theorem dX6_readFactor_70 : decode cX6_readFactor 70 = .ok (.i2c, 1) := by decide +kernel
theorem dX6_readFactor_71 : decode cX6_readFactor 71 = .ok (.invokevirtual 122, 3) := by decide +kernel
theorem dX6_readFactor_74 : decode cX6_readFactor 74 = .ok (.ifCond .lt 28, 3) := by decide +kernel
theorem dX6_readFactor_77 : decode cX6_readFactor 77 = .ok (.aload_n 0, 1) := by decide +kernel
theorem dX6_readFactor_78 : decode cX6_readFactor 78 = .ok (.dup, 1) := by decide +kernel
theorem dX6_readFactor_79 : decode cX6_readFactor 79 = .ok (.getfield 26, 3) := by decide +kernel
theorem dX6_readFactor_82 : decode cX6_readFactor 82 = .ok (.iconst 1, 1) := by decide +kernel
theorem dX6_readFactor_83 : decode cX6_readFactor 83 = .ok (.iadd, 1) := by decide +kernel
theorem dX6_readFactor_84 : decode cX6_readFactor 84 = .ok (.putfield 26, 3) := by decide +kernel
theorem dX6_readFactor_87 : decode cX6_readFactor 87 = .ok (.aload_n 0, 1) := by decide +kernel
theorem dX6_readFactor_88 : decode cX6_readFactor 88 = .ok (.getfield 18, 3) := by decide +kernel
theorem dX6_readFactor_91 : decode cX6_readFactor 91 = .ok (.iconst 1, 1) := by decide +kernel
theorem dX6_readFactor_92 : decode cX6_readFactor 92 = .ok (.iload_n 2, 1) := by decide +kernel
theorem dX6_readFactor_93 : decode cX6_readFactor 93 = .ok (.bipush 97, 2) := by decide +kernel
theorem dX6_readFactor_95 : decode cX6_readFactor 95 = .ok (.isub, 1) := by decide +kernel
theorem dX6_readFactor_96 : decode cX6_readFactor 96 = .ok (.invokevirtual 101, 3) := by decide +kernel
theorem dX6_readFactor_99 : decode cX6_readFactor 99 = .ok (.goto 8, 3) := by decide +kernel
theorem dX6_readFactor_102 : decode cX6_readFactor 102 = .ok (.aload_n 0, 1) := by decide +kernel
theorem dX6_readFactor_103 : decode cX6_readFactor 103 = .ok (.iconst 1, 1) := by decide +kernel
theorem dX6_readFactor_104 : decode cX6_readFactor 104 = .ok (.invokevirtual 61, 3) := by decide +kernel
theorem dX6_readFactor_107 : decode cX6_readFactor 107 = .ok (.return_, 1) := by decide +kernel
theorem dX6_isDigit_0 : decode cX6_isDigit 0 = .ok (.iload_n 0, 1) := by decide +kernel
theorem dX6_isDigit_1 : decode cX6_isDigit 1 = .ok (.bipush 48, 2) := by decide +kernel
theorem dX6_isDigit_3 : decode cX6_isDigit 3 = .ok (.if_icmp .lt 13, 3) := by decide +kernel
theorem dX6_isDigit_6 : decode cX6_isDigit 6 = .ok (.iload_n 0, 1) := by decide +kernel
theorem dX6_isDigit_7 : decode cX6_isDigit 7 = .ok (.bipush 57, 2) := by decide +kernel
theorem dX6_isDigit_9 : decode cX6_isDigit 9 = .ok (.if_icmp .gt 7, 3) := by decide +kernel
theorem dX6_isDigit_12 : decode cX6_isDigit 12 = .ok (.iconst 1, 1) := by decide +kernel
theorem dX6_isDigit_13 : decode cX6_isDigit 13 = .ok (.goto 4, 3) := by decide +kernel
theorem dX6_isDigit_16 : decode cX6_isDigit 16 = .ok (.iconst 0, 1) := by decide +kernel
theorem dX6_isDigit_17 : decode cX6_isDigit 17 = .ok (.ireturn, 1) := by decide +kernel
theorem dX6_readNumber_0 : decode cX6_readNumber 0 = .ok (.iconst 0, 1) := by decide +kernel
theorem dX6_readNumber_1 : decode cX6_readNumber 1 = .ok (.istore_n 1, 1) := by decide +kernel
theorem dX6_readNumber_2 : decode cX6_readNumber 2 = .ok (.iconst 0, 1) := by decide +kernel
theorem dX6_readNumber_3 : decode cX6_readNumber 3 = .ok (.istore_n 2, 1) := by decide +kernel
theorem dX6_readNumber_4 : decode cX6_readNumber 4 = .ok (.iload_n 2, 1) := by decide +kernel
theorem dX6_readNumber_5 : decode cX6_readNumber 5 = .ok (.iconst 5, 1) := by decide +kernel
theorem dX6_readNumber_6 : decode cX6_readNumber 6 = .ok (.if_icmp .ge 42, 3) := by decide +kernel
theorem dX6_readNumber_9 : decode cX6_readNumber 9 = .ok (.aload_n 0, 1) := by decide +kernel
theorem dX6_readNumber_10 : decode cX6_readNumber 10 = .ok (.invokevirtual 58, 3) := by decide +kernel
theorem dX6_readNumber_13 : decode cX6_readNumber 13 = .ok (.invokestatic 114, 3) := by decide +kernel
theorem dX6_readNumber_16 : decode cX6_readNumber 16 = .ok (.ifCond .eq 32, 3) := by decide +kernel
theorem dX6_readNumber_19 : decode cX6_readNumber 19 = .ok (.bipush 10, 2) := by decide +kernel
theorem dX6_readNumber_21 : decode cX6_readNumber 21 = .ok (.iload_n 1, 1) := by decide +kernel
theorem dX6_readNumber_22 : decode cX6_readNumber 22 = .ok (.imul, 1) := by decide +kernel
theorem dX6_readNumber_23 : decode cX6_readNumber 23 = .ok (.aload_n 0, 1) := by decide +kernel
theorem dX6_readNumber_24 : decode cX6_readNumber 24 = .ok (.invokevirtual 58, 3) := by decide +kernel
theorem dX6_readNumber_27 : decode cX6_readNumber 27 = .ok (.iadd, 1) := by decide +kernel
theorem dX6_readNumber_28 : decode cX6_readNumber 28 = .ok (.bipush 48, 2) := by decide +kernel
theorem dX6_readNumber_30 : decode cX6_readNumber 30 = .ok (.isub, 1) := by decide +kernel
theorem dX6_readNumber_31 : decode cX6_readNumber 31 = .ok (.istore_n 1, 1) := by decide +kernel
theorem dX6_readNumber_32 : decode cX6_readNumber 32 = .ok (.aload_n 0, 1) := by decide +kernel
theorem dX6_readNumber_33 : decode cX6_readNumber 33 = .ok (.dup, 1) := by decide +kernel
theorem dX6_readNumber_34 : decode cX6_readNumber 34 = .ok (.getfield 26, 3) := by decide +kernel
theorem dX6_readNumber_37 : decode cX6_readNumber 37 = .ok (.iconst 1, 1) := by decide +kernel
theorem dX6_readNumber_38 : decode cX6_readNumber 38 = .ok (.iadd, 1) := by decide +kernel
theorem dX6_readNumber_39 : decode cX6_readNumber 39 = .ok (.putfield 26, 3) := by decide +kernel
theorem dX6_readNumber_42 : decode cX6_readNumber 42 = .ok (.iinc 2 1, 3) := by decide +kernel
theorem dX6_readNumber_45 : decode cX6_readNumber 45 = .ok (.goto (-41), 3) := by decide +kernel
theorem dX6_readNumber_48 : decode cX6_readNumber 48 = .ok (.aload_n 0, 1) := by decide +kernel
theorem dX6_readNumber_49 : decode cX6_readNumber 49 = .ok (.invokevirtual 58, 3) := by decide +kernel
theorem dX6_readNumber_52 : decode cX6_readNumber 52 = .ok (.invokestatic 114, 3) := by decide +kernel
theorem dX6_readNumber_55 : decode cX6_readNumber 55 = .ok (.ifCond .eq 8, 3) := by decide +kernel
theorem dX6_readNumber_58 : decode cX6_readNumber 58 = .ok (.aload_n 0, 1) := by decide +kernel
theorem dX6_readNumber_59 : decode cX6_readNumber 59 = .ok (.iconst 2, 1) := by decide +kernel
theorem dX6_readNumber_60 : decode cX6_readNumber 60 = .ok (.invokevirtual 61, 3) := by decide +kernel
theorem dX6_readNumber_63 : decode cX6_readNumber 63 = .ok (.aload_n 0, 1) := by decide +kernel
theorem dX6_readNumber_64 : decode cX6_readNumber 64 = .ok (.getfield 18, 3) := by decide +kernel
theorem dX6_readNumber_67 : decode cX6_readNumber 67 = .ok (.iconst 0, 1) := by decide +kernel
theorem dX6_readNumber_68 : decode cX6_readNumber 68 = .ok (.iload_n 1, 1) := by decide +kernel
theorem dX6_readNumber_69 : decode cX6_readNumber 69 = .ok (.invokevirtual 101, 3) := by decide +kernel
theorem dX6_readNumber_72 : decode cX6_readNumber 72 = .ok (.return_, 1) := by decide +kernel
theorem dX7_init_0 : decode cX7_init 0 = .ok (.aload_n 0, 1) := by decide +kernel
theorem dX7_init_1 : decode cX7_init 1 = .ok (.invokespecial 3, 3) := by decide +kernel
theorem dX7_init_4 : decode cX7_init 4 = .ok (.aload_n 0, 1) := by decide +kernel
theorem dX7_init_5 : decode cX7_init 5 = .ok (.sipush 220, 3) := by decide +kernel
theorem dX7_init_8 : decode cX7_init 8 = .ok (.newarray .int, 2) := by decide +kernel
theorem dX7_init_10 : decode cX7_init 10 = .ok (.putfield 11, 3) := by decide +kernel
theorem dX7_init_13 : decode cX7_init 13 = .ok (.aload_n 0, 1) := by decide +kernel
theorem dX7_init_14 : decode cX7_init 14 = .ok (.iconst 0, 1) := by decide +kernel
theorem dX7_init_15 : decode cX7_init 15 = .ok (.putfield 15, 3) := by decide +kernel
theorem dX7_init_18 : decode cX7_init 18 = .ok (.return_, 1) := by decide +kernel
theorem dX7_size_0 : decode cX7_size 0 = .ok (.aload_n 0, 1) := by decide +kernel
theorem dX7_size_1 : decode cX7_size 1 = .ok (.getfield 15, 3) := by decide +kernel
theorem dX7_size_4 : decode cX7_size 4 = .ok (.ireturn, 1) := by decide +kernel
theorem dX7_clear_0 : decode cX7_clear 0 = .ok (.aload_n 0, 1) := by decide +kernel
theorem dX7_clear_1 : decode cX7_clear 1 = .ok (.iconst 0, 1) := by decide +kernel
theorem dX7_clear_2 : decode cX7_clear 2 = .ok (.putfield 15, 3) := by decide +kernel
theorem dX7_clear_5 : decode cX7_clear 5 = .ok (.return_, 1) := by decide +kernel
theorem dX7_takesFive_0 : decode cX7_takesFive 0 = .ok (.aload_n 0, 1) := by decide +kernel
theorem dX7_takesFive_1 : decode cX7_takesFive 1 = .ok (.getfield 15, 3) := by decide +kernel
theorem dX7_takesFive_4 : decode cX7_takesFive 4 = .ok (.bipush 20, 2) := by decide +kernel
theorem dX7_takesFive_6 : decode cX7_takesFive 6 = .ok (.iadd, 1) := by decide +kernel
theorem dX7_takesFive_7 : decode cX7_takesFive 7 = .ok (.sipush 220, 3) := by decide +kernel
theorem dX7_takesFive_10 : decode cX7_takesFive 10 = .ok (.if_icmp .gt 7, 3) := by decide +kernel
theorem dX7_takesFive_13 : decode cX7_takesFive 13 = .ok (.iconst 1, 1) := by decide +kernel
theorem dX7_takesFive_14 : decode cX7_takesFive 14 = .ok (.goto 4, 3) := by decide +kernel
theorem dX7_takesFive_17 : decode cX7_takesFive 17 = .ok (.iconst 0, 1) := by decide +kernel
theorem dX7_takesFive_18 : decode cX7_takesFive 18 = .ok (.ireturn, 1) := by decide +kernel
theorem dX7_append_0 : decode cX7_append 0 = .ok (.bipush 24, 2) := by decide +kernel
theorem dX7_append_2 : decode cX7_append 2 = .ok (.istore_n 2, 1) := by decide +kernel
theorem dX7_append_3 : decode cX7_append 3 = .ok (.iload_n 2, 1) := by decide +kernel
theorem dX7_append_4 : decode cX7_append 4 = .ok (.ifCond .lt 45, 3) := by decide +kernel
theorem dX7_append_7 : decode cX7_append 7 = .ok (.aload_n 0, 1) := by decide +kernel
theorem dX7_append_8 : decode cX7_append 8 = .ok (.getfield 15, 3) := by decide +kernel
theorem dX7_append_11 : decode cX7_append 11 = .ok (.sipush 220, 3) := by decide +kernel
theorem dX7_append_14 : decode cX7_append 14 = .ok (.if_icmp .ge 35, 3) := by decide +kernel
theorem dX7_append_17 : decode cX7_append 17 = .ok (.aload_n 0, 1) := by decide +kernel
theorem dX7_append_18 : decode cX7_append 18 = .ok (.getfield 11, 3) := by decide +kernel
theorem dX7_append_21 : decode cX7_append 21 = .ok (.aload_n 0, 1) := by decide +kernel
theorem dX7_append_22 : decode cX7_append 22 = .ok (.getfield 15, 3) := by decide +kernel
theorem dX7_append_25 : decode cX7_append 25 = .ok (.iload_n 1, 1) := by decide +kernel
theorem dX7_append_26 : decode cX7_append 26 = .ok (.iload_n 2, 1) := by decide +kernel
theorem dX7_append_27 : decode cX7_append 27 = .ok (.ishr, 1) := by decide +kernel
theorem dX7_append_28 : decode cX7_append 28 = .ok (.sipush 255, 3) := by decide +kernel
theorem dX7_append_31 : decode cX7_append 31 = .ok (.iand, 1) := by decide +kernel
theorem dX7_append_32 : decode cX7_append 32 = .ok (.iastore, 1) := by decide +kernel
theorem dX7_append_33 : decode cX7_append 33 = .ok (.aload_n 0, 1) := by decide +kernel
theorem dX7_append_34 : decode cX7_append 34 = .ok (.dup, 1) := by decide +kernel
theorem dX7_append_35 : decode cX7_append 35 = .ok (.getfield 15, 3) := by decide +kernel
theorem dX7_append_38 : decode cX7_append 38 = .ok (.iconst 1, 1) := by decide +kernel
theorem dX7_append_39 : decode cX7_append 39 = .ok (.iadd, 1) := by decide +kernel
theorem dX7_append_40 : decode cX7_append 40 = .ok (.putfield 15, 3) := by decide +kernel
theorem dX7_append_43 : decode cX7_append 43 = .ok (.iinc 2 (-8), 3) := by decide +kernel
theorem dX7_append_46 : decode cX7_append 46 = .ok (.goto (-43), 3) := by decide +kernel
theorem dX7_append_49 : decode cX7_append 49 = .ok (.return_, 1) := by decide +kernel
theorem dX7_byteAt_0 : decode cX7_byteAt 0 = .ok (.iload_n 1, 1) := by decide +kernel
theorem dX7_byteAt_1 : decode cX7_byteAt 1 = .ok (.ifCond .lt 20, 3) := by decide +kernel
theorem dX7_byteAt_4 : decode cX7_byteAt 4 = .ok (.iload_n 1, 1) := by decide +kernel
theorem dX7_byteAt_5 : decode cX7_byteAt 5 = .ok (.aload_n 0, 1) := by decide +kernel
theorem dX7_byteAt_6 : decode cX7_byteAt 6 = .ok (.getfield 15, 3) := by decide +kernel
theorem dX7_byteAt_9 : decode cX7_byteAt 9 = .ok (.if_icmp .ge 12, 3) := by decide +kernel
theorem dX7_byteAt_12 : decode cX7_byteAt 12 = .ok (.aload_n 0, 1) := by decide +kernel
theorem dX7_byteAt_13 : decode cX7_byteAt 13 = .ok (.getfield 11, 3) := by decide +kernel
theorem dX7_byteAt_16 : decode cX7_byteAt 16 = .ok (.iload_n 1, 1) := by decide +kernel
theorem dX7_byteAt_17 : decode cX7_byteAt 17 = .ok (.iaload, 1) := by decide +kernel
theorem dX7_byteAt_18 : decode cX7_byteAt 18 = .ok (.goto 4, 3) := by decide +kernel
theorem dX7_byteAt_21 : decode cX7_byteAt 21 = .ok (.iconst (-1), 1) := by decide +kernel
theorem dX7_byteAt_22 : decode cX7_byteAt 22 = .ok (.ireturn, 1) := by decide +kernel
theorem dX7_numberAt_0 : decode cX7_numberAt 0 = .ok (.iconst 0, 1) := by decide +kernel
theorem dX7_numberAt_1 : decode cX7_numberAt 1 = .ok (.istore_n 2, 1) := by decide +kernel
theorem dX7_numberAt_2 : decode cX7_numberAt 2 = .ok (.iconst 0, 1) := by decide +kernel
theorem dX7_numberAt_3 : decode cX7_numberAt 3 = .ok (.istore_n 3, 1) := by decide +kernel
theorem dX7_numberAt_4 : decode cX7_numberAt 4 = .ok (.iload_n 3, 1) := by decide +kernel
theorem dX7_numberAt_5 : decode cX7_numberAt 5 = .ok (.iconst 4, 1) := by decide +kernel
theorem dX7_numberAt_6 : decode cX7_numberAt 6 = .ok (.if_icmp .ge 28, 3) := by decide +kernel
theorem dX7_numberAt_9 : decode cX7_numberAt 9 = .ok (.iload_n 2, 1) := by decide +kernel
theorem dX7_numberAt_10 : decode cX7_numberAt 10 = .ok (.bipush 8, 2) := by decide +kernel
theorem dX7_numberAt_12 : decode cX7_numberAt 12 = .ok (.ishl, 1) := by decide +kernel
theorem dX7_numberAt_13 : decode cX7_numberAt 13 = .ok (.aload_n 0, 1) := by decide +kernel
theorem dX7_numberAt_14 : decode cX7_numberAt 14 = .ok (.iconst 4, 1) := by decide +kernel
theorem dX7_numberAt_15 : decode cX7_numberAt 15 = .ok (.iload_n 1, 1) := by decide +kernel
theorem dX7_numberAt_16 : decode cX7_numberAt 16 = .ok (.imul, 1) := by decide +kernel
theorem dX7_numberAt_17 : decode cX7_numberAt 17 = .ok (.iload_n 3, 1) := by decide +kernel
theorem dX7_numberAt_18 : decode cX7_numberAt 18 = .ok (.iadd, 1) := by decide +kernel
theorem dX7_numberAt_19 : decode cX7_numberAt 19 = .ok (.invokevirtual 19, 3) := by decide +kernel
theorem dX7_numberAt_22 : decode cX7_numberAt 22 = .ok (.sipush 255, 3) := by decide +kernel
theorem dX7_numberAt_25 : decode cX7_numberAt 25 = .ok (.iand, 1) := by decide +kernel
theorem dX7_numberAt_26 : decode cX7_numberAt 26 = .ok (.ior, 1) := by decide +kernel
theorem dX7_numberAt_27 : decode cX7_numberAt 27 = .ok (.istore_n 2, 1) := by decide +kernel
theorem dX7_numberAt_28 : decode cX7_numberAt 28 = .ok (.iinc 3 1, 3) := by decide +kernel
theorem dX7_numberAt_31 : decode cX7_numberAt 31 = .ok (.goto (-27), 3) := by decide +kernel
theorem dX7_numberAt_34 : decode cX7_numberAt 34 = .ok (.iload_n 2, 1) := by decide +kernel
theorem dX7_numberAt_35 : decode cX7_numberAt 35 = .ok (.ireturn, 1) := by decide +kernel
theorem dX8_init_0 : decode cX8_init 0 = .ok (.aload_n 0, 1) := by decide +kernel
theorem dX8_init_1 : decode cX8_init 1 = .ok (.invokespecial 3, 3) := by decide +kernel
theorem dX8_init_4 : decode cX8_init 4 = .ok (.aload_n 0, 1) := by decide +kernel
theorem dX8_init_5 : decode cX8_init 5 = .ok (.bipush 16, 2) := by decide +kernel
theorem dX8_init_7 : decode cX8_init 7 = .ok (.newarray .long, 2) := by decide +kernel
theorem dX8_init_9 : decode cX8_init 9 = .ok (.putfield 11, 3) := by decide +kernel
theorem dX8_init_12 : decode cX8_init 12 = .ok (.return_, 1) := by decide +kernel
theorem dX8_clear_0 : decode cX8_clear 0 = .ok (.iconst 0, 1) := by decide +kernel
theorem dX8_clear_1 : decode cX8_clear 1 = .ok (.istore_n 1, 1) := by decide +kernel
theorem dX8_clear_2 : decode cX8_clear 2 = .ok (.iload_n 1, 1) := by decide +kernel
theorem dX8_clear_3 : decode cX8_clear 3 = .ok (.bipush 16, 2) := by decide +kernel
theorem dX8_clear_5 : decode cX8_clear 5 = .ok (.if_icmp .ge 16, 3) := by decide +kernel
theorem dX8_clear_8 : decode cX8_clear 8 = .ok (.aload_n 0, 1) := by decide +kernel
theorem dX8_clear_9 : decode cX8_clear 9 = .ok (.getfield 11, 3) := by decide +kernel
theorem dX8_clear_12 : decode cX8_clear 12 = .ok (.iload_n 1, 1) := by decide +kernel
theorem dX8_clear_13 : decode cX8_clear 13 = .ok (.lconst 0, 1) := by decide +kernel
theorem dX8_clear_14 : decode cX8_clear 14 = .ok (.lastore, 1) := by decide +kernel
theorem dX8_clear_15 : decode cX8_clear 15 = .ok (.iinc 1 1, 3) := by decide +kernel
theorem dX8_clear_18 : decode cX8_clear 18 = .ok (.goto (-16), 3) := by decide +kernel
theorem dX8_clear_21 : decode cX8_clear 21 = .ok (.return_, 1) := by decide +kernel
theorem dX8_copy_0 : decode cX8_copy 0 = .ok (.iconst 0, 1) := by decide +kernel
theorem dX8_copy_1 : decode cX8_copy 1 = .ok (.istore_n 2, 1) := by decide +kernel
theorem dX8_copy_2 : decode cX8_copy 2 = .ok (.iload_n 2, 1) := by decide +kernel
theorem dX8_copy_3 : decode cX8_copy 3 = .ok (.bipush 16, 2) := by decide +kernel
theorem dX8_copy_5 : decode cX8_copy 5 = .ok (.if_icmp .ge 21, 3) := by decide +kernel
theorem dX8_copy_8 : decode cX8_copy 8 = .ok (.aload_n 0, 1) := by decide +kernel
theorem dX8_copy_9 : decode cX8_copy 9 = .ok (.getfield 11, 3) := by decide +kernel
theorem dX8_copy_12 : decode cX8_copy 12 = .ok (.iload_n 2, 1) := by decide +kernel
theorem dX8_copy_13 : decode cX8_copy 13 = .ok (.aload_n 1, 1) := by decide +kernel
theorem dX8_copy_14 : decode cX8_copy 14 = .ok (.getfield 11, 3) := by decide +kernel
theorem dX8_copy_17 : decode cX8_copy 17 = .ok (.iload_n 2, 1) := by decide +kernel
theorem dX8_copy_18 : decode cX8_copy 18 = .ok (.laload, 1) := by decide +kernel
theorem dX8_copy_19 : decode cX8_copy 19 = .ok (.lastore, 1) := by decide +kernel
theorem dX8_copy_20 : decode cX8_copy 20 = .ok (.iinc 2 1, 3) := by decide +kernel
theorem dX8_copy_23 : decode cX8_copy 23 = .ok (.goto (-21), 3) := by decide +kernel
theorem dX8_copy_26 : decode cX8_copy 26 = .ok (.return_, 1) := by decide +kernel
theorem dX8_wordAt_0 : decode cX8_wordAt 0 = .ok (.iload_n 1, 1) := by decide +kernel
theorem dX8_wordAt_1 : decode cX8_wordAt 1 = .ok (.ifCond .lt 18, 3) := by decide +kernel
theorem dX8_wordAt_4 : decode cX8_wordAt 4 = .ok (.iload_n 1, 1) := by decide +kernel
theorem dX8_wordAt_5 : decode cX8_wordAt 5 = .ok (.bipush 16, 2) := by decide +kernel
theorem dX8_wordAt_7 : decode cX8_wordAt 7 = .ok (.if_icmp .ge 12, 3) := by decide +kernel
theorem dX8_wordAt_10 : decode cX8_wordAt 10 = .ok (.aload_n 0, 1) := by decide +kernel
theorem dX8_wordAt_11 : decode cX8_wordAt 11 = .ok (.getfield 11, 3) := by decide +kernel
theorem dX8_wordAt_14 : decode cX8_wordAt 14 = .ok (.iload_n 1, 1) := by decide +kernel
theorem dX8_wordAt_15 : decode cX8_wordAt 15 = .ok (.laload, 1) := by decide +kernel
theorem dX8_wordAt_16 : decode cX8_wordAt 16 = .ok (.goto 4, 3) := by decide +kernel
theorem dX8_wordAt_19 : decode cX8_wordAt 19 = .ok (.lconst 0, 1) := by decide +kernel
theorem dX8_wordAt_20 : decode cX8_wordAt 20 = .ok (.lreturn, 1) := by decide +kernel
theorem dX8_setWord_0 : decode cX8_setWord 0 = .ok (.iload_n 1, 1) := by decide +kernel
theorem dX8_setWord_1 : decode cX8_setWord 1 = .ok (.ifCond .lt 16, 3) := by decide +kernel
theorem dX8_setWord_4 : decode cX8_setWord 4 = .ok (.iload_n 1, 1) := by decide +kernel
theorem dX8_setWord_5 : decode cX8_setWord 5 = .ok (.bipush 16, 2) := by decide +kernel
theorem dX8_setWord_7 : decode cX8_setWord 7 = .ok (.if_icmp .ge 10, 3) := by decide +kernel
theorem dX8_setWord_10 : decode cX8_setWord 10 = .ok (.aload_n 0, 1) := by decide +kernel
theorem dX8_setWord_11 : decode cX8_setWord 11 = .ok (.getfield 11, 3) := by decide +kernel
theorem dX8_setWord_14 : decode cX8_setWord 14 = .ok (.iload_n 1, 1) := by decide +kernel
theorem dX8_setWord_15 : decode cX8_setWord 15 = .ok (.lload_n 2, 1) := by decide +kernel
theorem dX8_setWord_16 : decode cX8_setWord 16 = .ok (.lastore, 1) := by decide +kernel
theorem dX8_setWord_17 : decode cX8_setWord 17 = .ok (.return_, 1) := by decide +kernel
theorem dX8_add_0 : decode cX8_add 0 = .ok (.iload_n 1, 1) := by decide +kernel
theorem dX8_add_1 : decode cX8_add 1 = .ok (.ifCond .lt 28, 3) := by decide +kernel
theorem dX8_add_4 : decode cX8_add 4 = .ok (.iload_n 1, 1) := by decide +kernel
theorem dX8_add_5 : decode cX8_add 5 = .ok (.sipush 1024, 3) := by decide +kernel
theorem dX8_add_8 : decode cX8_add 8 = .ok (.if_icmp .ge 21, 3) := by decide +kernel
theorem dX8_add_11 : decode cX8_add 11 = .ok (.aload_n 0, 1) := by decide +kernel
theorem dX8_add_12 : decode cX8_add 12 = .ok (.getfield 11, 3) := by decide +kernel
theorem dX8_add_15 : decode cX8_add 15 = .ok (.iload_n 1, 1) := by decide +kernel
theorem dX8_add_16 : decode cX8_add 16 = .ok (.bipush 6, 2) := by decide +kernel
theorem dX8_add_18 : decode cX8_add 18 = .ok (.ishr, 1) := by decide +kernel
theorem dX8_add_19 : decode cX8_add 19 = .ok (.dup2, 1) := by decide +kernel
theorem dX8_add_20 : decode cX8_add 20 = .ok (.laload, 1) := by decide +kernel
theorem dX8_add_21 : decode cX8_add 21 = .ok (.lconst 1, 1) := by decide +kernel
theorem dX8_add_22 : decode cX8_add 22 = .ok (.iload_n 1, 1) := by decide +kernel
theorem dX8_add_23 : decode cX8_add 23 = .ok (.bipush 63, 2) := by decide +kernel
theorem dX8_add_25 : decode cX8_add 25 = .ok (.iand, 1) := by decide +kernel
theorem dX8_add_26 : decode cX8_add 26 = .ok (.lshl, 1) := by decide +kernel
theorem dX8_add_27 : decode cX8_add 27 = .ok (.lor, 1) := by decide +kernel
theorem dX8_add_28 : decode cX8_add 28 = .ok (.lastore, 1) := by decide +kernel
theorem dX8_add_29 : decode cX8_add 29 = .ok (.return_, 1) := by decide +kernel
theorem dX8_has_0 : decode cX8_has 0 = .ok (.iload_n 1, 1) := by decide +kernel
theorem dX8_has_1 : decode cX8_has 1 = .ok (.ifCond .lt 35, 3) := by decide +kernel
theorem dX8_has_4 : decode cX8_has 4 = .ok (.iload_n 1, 1) := by decide +kernel
theorem dX8_has_5 : decode cX8_has 5 = .ok (.sipush 1024, 3) := by decide +kernel
theorem dX8_has_8 : decode cX8_has 8 = .ok (.if_icmp .ge 28, 3) := by decide +kernel
theorem dX8_has_11 : decode cX8_has 11 = .ok (.aload_n 0, 1) := by decide +kernel
theorem dX8_has_12 : decode cX8_has 12 = .ok (.getfield 11, 3) := by decide +kernel
theorem dX8_has_15 : decode cX8_has 15 = .ok (.iload_n 1, 1) := by decide +kernel
theorem dX8_has_16 : decode cX8_has 16 = .ok (.bipush 6, 2) := by decide +kernel
theorem dX8_has_18 : decode cX8_has 18 = .ok (.ishr, 1) := by decide +kernel
theorem dX8_has_19 : decode cX8_has 19 = .ok (.laload, 1) := by decide +kernel
theorem dX8_has_20 : decode cX8_has 20 = .ok (.iload_n 1, 1) := by decide +kernel
theorem dX8_has_21 : decode cX8_has 21 = .ok (.bipush 63, 2) := by decide +kernel
theorem dX8_has_23 : decode cX8_has 23 = .ok (.iand, 1) := by decide +kernel
theorem dX8_has_24 : decode cX8_has 24 = .ok (.lushr, 1) := by decide +kernel
theorem dX8_has_25 : decode cX8_has 25 = .ok (.lconst 1, 1) := by decide +kernel
theorem dX8_has_26 : decode cX8_has 26 = .ok (.land, 1) := by decide +kernel
theorem dX8_has_27 : decode cX8_has 27 = .ok (.lconst 1, 1) := by decide +kernel
theorem dX8_has_28 : decode cX8_has 28 = .ok (.lcmp, 1) := by decide +kernel
theorem dX8_has_29 : decode cX8_has 29 = .ok (.ifCond .ne 7, 3) := by decide +kernel
theorem dX8_has_32 : decode cX8_has 32 = .ok (.iconst 1, 1) := by decide +kernel
theorem dX8_has_33 : decode cX8_has 33 = .ok (.goto 4, 3) := by decide +kernel
theorem dX8_has_36 : decode cX8_has 36 = .ok (.iconst 0, 1) := by decide +kernel
theorem dX8_has_37 : decode cX8_has 37 = .ok (.ireturn, 1) := by decide +kernel
theorem dX8_isEmpty_0 : decode cX8_isEmpty 0 = .ok (.iconst 0, 1) := by decide +kernel
theorem dX8_isEmpty_1 : decode cX8_isEmpty 1 = .ok (.istore_n 1, 1) := by decide +kernel
theorem dX8_isEmpty_2 : decode cX8_isEmpty 2 = .ok (.iload_n 1, 1) := by decide +kernel
theorem dX8_isEmpty_3 : decode cX8_isEmpty 3 = .ok (.bipush 16, 2) := by decide +kernel
theorem dX8_isEmpty_5 : decode cX8_isEmpty 5 = .ok (.if_icmp .ge 22, 3) := by decide +kernel
theorem dX8_isEmpty_8 : decode cX8_isEmpty 8 = .ok (.aload_n 0, 1) := by decide +kernel
theorem dX8_isEmpty_9 : decode cX8_isEmpty 9 = .ok (.getfield 11, 3) := by decide +kernel
theorem dX8_isEmpty_12 : decode cX8_isEmpty 12 = .ok (.iload_n 1, 1) := by decide +kernel
theorem dX8_isEmpty_13 : decode cX8_isEmpty 13 = .ok (.laload, 1) := by decide +kernel
theorem dX8_isEmpty_14 : decode cX8_isEmpty 14 = .ok (.lconst 0, 1) := by decide +kernel
theorem dX8_isEmpty_15 : decode cX8_isEmpty 15 = .ok (.lcmp, 1) := by decide +kernel
theorem dX8_isEmpty_16 : decode cX8_isEmpty 16 = .ok (.ifCond .eq 5, 3) := by decide +kernel
theorem dX8_isEmpty_19 : decode cX8_isEmpty 19 = .ok (.iconst 0, 1) := by decide +kernel
theorem dX8_isEmpty_20 : decode cX8_isEmpty 20 = .ok (.ireturn, 1) := by decide +kernel
theorem dX8_isEmpty_21 : decode cX8_isEmpty 21 = .ok (.iinc 1 1, 3) := by decide +kernel
theorem dX8_isEmpty_24 : decode cX8_isEmpty 24 = .ok (.goto (-22), 3) := by decide +kernel
theorem dX8_isEmpty_27 : decode cX8_isEmpty 27 = .ok (.iconst 1, 1) := by decide +kernel
theorem dX8_isEmpty_28 : decode cX8_isEmpty 28 = .ok (.ireturn, 1) := by decide +kernel
theorem dX8_size_0 : decode cX8_size 0 = .ok (.iconst 0, 1) := by decide +kernel
theorem dX8_size_1 : decode cX8_size 1 = .ok (.istore_n 1, 1) := by decide +kernel
theorem dX8_size_2 : decode cX8_size 2 = .ok (.iconst 0, 1) := by decide +kernel
theorem dX8_size_3 : decode cX8_size 3 = .ok (.istore_n 2, 1) := by decide +kernel
theorem dX8_size_4 : decode cX8_size 4 = .ok (.iload_n 2, 1) := by decide +kernel
theorem dX8_size_5 : decode cX8_size 5 = .ok (.bipush 16, 2) := by decide +kernel
theorem dX8_size_7 : decode cX8_size 7 = .ok (.if_icmp .ge 21, 3) := by decide +kernel
theorem dX8_size_10 : decode cX8_size 10 = .ok (.iload_n 1, 1) := by decide +kernel
theorem dX8_size_11 : decode cX8_size 11 = .ok (.aload_n 0, 1) := by decide +kernel
theorem dX8_size_12 : decode cX8_size 12 = .ok (.getfield 11, 3) := by decide +kernel
theorem dX8_size_15 : decode cX8_size 15 = .ok (.iload_n 2, 1) := by decide +kernel
theorem dX8_size_16 : decode cX8_size 16 = .ok (.laload, 1) := by decide +kernel
theorem dX8_size_17 : decode cX8_size 17 = .ok (.invokestatic 15, 3) := by decide +kernel
theorem dX8_size_20 : decode cX8_size 20 = .ok (.iadd, 1) := by decide +kernel
theorem dX8_size_21 : decode cX8_size 21 = .ok (.istore_n 1, 1) := by decide +kernel
theorem dX8_size_22 : decode cX8_size 22 = .ok (.iinc 2 1, 3) := by decide +kernel
theorem dX8_size_25 : decode cX8_size 25 = .ok (.goto (-21), 3) := by decide +kernel
theorem dX8_size_28 : decode cX8_size 28 = .ok (.iload_n 1, 1) := by decide +kernel
theorem dX8_size_29 : decode cX8_size 29 = .ok (.ireturn, 1) := by decide +kernel
theorem dX8_at_0 : decode cX8_at 0 = .ok (.iload_n 1, 1) := by decide +kernel
theorem dX8_at_1 : decode cX8_at 1 = .ok (.ifCond .ge 5, 3) := by decide +kernel
