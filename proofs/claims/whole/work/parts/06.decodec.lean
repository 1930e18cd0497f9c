theorem dX5_init_0 : decode cX5_init 0 = .ok (.aload_n 0, 1) := by decide +kernel
theorem dX5_init_1 : decode cX5_init 1 = .ok (.invokespecial 1, 3) := by decide +kernel
theorem dX5_init_4 : decode cX5_init 4 = .ok (.aload_n 0, 1) := by decide +kernel
theorem dX5_init_5 : decode cX5_init 5 = .ok (.iconst 4, 1) := by decide +kernel
theorem dX5_init_6 : decode cX5_init 6 = .ok (.newarray .int, 2) := by decide +kernel
theorem dX5_init_8 : decode cX5_init 8 = .ok (.dup, 1) := by decide +kernel
theorem dX5_init_9 : decode cX5_init 9 = .ok (.iconst 0, 1) := by decide +kernel
theorem dX5_init_10 : decode cX5_init 10 = .ok (.bipush (-9), 2) := by decide +kernel
theorem dX5_init_12 : decode cX5_init 12 = .ok (.iastore, 1) := by decide +kernel
theorem dX5_init_13 : decode cX5_init 13 = .ok (.dup, 1) := by decide +kernel
theorem dX5_init_14 : decode cX5_init 14 = .ok (.iconst 1, 1) := by decide +kernel
theorem dX5_init_15 : decode cX5_init 15 = .ok (.bipush (-9), 2) := by decide +kernel
theorem dX5_init_17 : decode cX5_init 17 = .ok (.iastore, 1) := by decide +kernel
theorem dX5_init_18 : decode cX5_init 18 = .ok (.dup, 1) := by decide +kernel
theorem dX5_init_19 : decode cX5_init 19 = .ok (.iconst 2, 1) := by decide +kernel
theorem dX5_init_20 : decode cX5_init 20 = .ok (.bipush (-9), 2) := by decide +kernel
theorem dX5_init_22 : decode cX5_init 22 = .ok (.iastore, 1) := by decide +kernel
theorem dX5_init_23 : decode cX5_init 23 = .ok (.dup, 1) := by decide +kernel
theorem dX5_init_24 : decode cX5_init 24 = .ok (.iconst 3, 1) := by decide +kernel
theorem dX5_init_25 : decode cX5_init 25 = .ok (.bipush (-9), 2) := by decide +kernel
theorem dX5_init_27 : decode cX5_init 27 = .ok (.iastore, 1) := by decide +kernel
theorem dX5_init_28 : decode cX5_init 28 = .ok (.putfield 9, 3) := by decide +kernel
theorem dX5_init_31 : decode cX5_init 31 = .ok (.aload_n 0, 1) := by decide +kernel
theorem dX5_init_32 : decode cX5_init 32 = .ok (.iconst 4, 1) := by decide +kernel
theorem dX5_init_33 : decode cX5_init 33 = .ok (.newarray .int, 2) := by decide +kernel
theorem dX5_init_35 : decode cX5_init 35 = .ok (.putfield 13, 3) := by decide +kernel
theorem dX5_init_38 : decode cX5_init 38 = .ok (.aload_n 0, 1) := by decide +kernel
theorem dX5_init_39 : decode cX5_init 39 = .ok (.sipush 240, 3) := by decide +kernel
theorem dX5_init_42 : decode cX5_init 42 = .ok (.newarray .int, 2) := by decide +kernel
theorem dX5_init_44 : decode cX5_init 44 = .ok (.putfield 16, 3) := by decide +kernel
theorem dX5_init_47 : decode cX5_init 47 = .ok (.aload_n 0, 1) := by decide +kernel
theorem dX5_init_48 : decode cX5_init 48 = .ok (.bipush 12, 2) := by decide +kernel
theorem dX5_init_50 : decode cX5_init 50 = .ok (.newarray .int, 2) := by decide +kernel
theorem dX5_init_52 : decode cX5_init 52 = .ok (.putfield 19, 3) := by decide +kernel
theorem dX5_init_55 : decode cX5_init 55 = .ok (.aload_n 0, 1) := by decide +kernel
theorem dX5_init_56 : decode cX5_init 56 = .ok (.bipush 12, 2) := by decide +kernel
theorem dX5_init_58 : decode cX5_init 58 = .ok (.newarray .int, 2) := by decide +kernel
theorem dX5_init_60 : decode cX5_init 60 = .ok (.putfield 22, 3) := by decide +kernel
theorem dX5_init_63 : decode cX5_init 63 = .ok (.aload_n 0, 1) := by decide +kernel
theorem dX5_init_64 : decode cX5_init 64 = .ok (.bipush 12, 2) := by decide +kernel
theorem dX5_init_66 : decode cX5_init 66 = .ok (.newarray .int, 2) := by decide +kernel
theorem dX5_init_68 : decode cX5_init 68 = .ok (.putfield 25, 3) := by decide +kernel
theorem dX5_init_71 : decode cX5_init 71 = .ok (.aload_n 0, 1) := by decide +kernel
theorem dX5_init_72 : decode cX5_init 72 = .ok (.bipush 12, 2) := by decide +kernel
theorem dX5_init_74 : decode cX5_init 74 = .ok (.newarray .int, 2) := by decide +kernel
theorem dX5_init_76 : decode cX5_init 76 = .ok (.putfield 28, 3) := by decide +kernel
theorem dX5_init_79 : decode cX5_init 79 = .ok (.aload_n 0, 1) := by decide +kernel
theorem dX5_init_80 : decode cX5_init 80 = .ok (.bipush 12, 2) := by decide +kernel
theorem dX5_init_82 : decode cX5_init 82 = .ok (.newarray .int, 2) := by decide +kernel
theorem dX5_init_84 : decode cX5_init 84 = .ok (.putfield 31, 3) := by decide +kernel
theorem dX5_init_87 : decode cX5_init 87 = .ok (.aload_n 0, 1) := by decide +kernel
theorem dX5_init_88 : decode cX5_init 88 = .ok (.bipush 8, 2) := by decide +kernel
theorem dX5_init_90 : decode cX5_init 90 = .ok (.newarray .int, 2) := by decide +kernel
theorem dX5_init_92 : decode cX5_init 92 = .ok (.putfield 34, 3) := by decide +kernel
theorem dX5_init_95 : decode cX5_init 95 = .ok (.aload_n 0, 1) := by decide +kernel
theorem dX5_init_96 : decode cX5_init 96 = .ok (.bipush 8, 2) := by decide +kernel
theorem dX5_init_98 : decode cX5_init 98 = .ok (.newarray .int, 2) := by decide +kernel
theorem dX5_init_100 : decode cX5_init 100 = .ok (.putfield 37, 3) := by decide +kernel
theorem dX5_init_103 : decode cX5_init 103 = .ok (.aload_n 0, 1) := by decide +kernel
theorem dX5_init_104 : decode cX5_init 104 = .ok (.bipush 8, 2) := by decide +kernel
theorem dX5_init_106 : decode cX5_init 106 = .ok (.newarray .int, 2) := by decide +kernel
theorem dX5_init_108 : decode cX5_init 108 = .ok (.putfield 40, 3) := by decide +kernel
theorem dX5_init_111 : decode cX5_init 111 = .ok (.return_, 1) := by decide +kernel
theorem dX5_fails_0 : decode cX5_fails 0 = .ok (.aload_n 0, 1) := by decide +kernel
theorem dX5_fails_1 : decode cX5_fails 1 = .ok (.iload_n 1, 1) := by decide +kernel
theorem dX5_fails_2 : decode cX5_fails 2 = .ok (.putfield 43, 3) := by decide +kernel
theorem dX5_fails_5 : decode cX5_fails 5 = .ok (.bipush (-10), 2) := by decide +kernel
theorem dX5_fails_7 : decode cX5_fails 7 = .ok (.iload_n 1, 1) := by decide +kernel
theorem dX5_fails_8 : decode cX5_fails 8 = .ok (.isub, 1) := by decide +kernel
theorem dX5_fails_9 : decode cX5_fails 9 = .ok (.ireturn, 1) := by decide +kernel
theorem dX5_lost_0 : decode cX5_lost 0 = .ok (.aload_n 0, 1) := by decide +kernel
theorem dX5_lost_1 : decode cX5_lost 1 = .ok (.iload_n 1, 1) := by decide +kernel
theorem dX5_lost_2 : decode cX5_lost 2 = .ok (.putfield 43, 3) := by decide +kernel
theorem dX5_lost_5 : decode cX5_lost 5 = .ok (.ldc2_w 47, 3) := by decide +kernel
theorem dX5_lost_8 : decode cX5_lost 8 = .ok (.lreturn, 1) := by decide +kernel
theorem dX5_within_0 : decode cX5_within 0 = .ok (.iload_n 0, 1) := by decide +kernel
theorem dX5_within_1 : decode cX5_within 1 = .ok (.iload_n 1, 1) := by decide +kernel
theorem dX5_within_2 : decode cX5_within 2 = .ok (.if_icmp .lt 12, 3) := by decide +kernel
theorem dX5_within_5 : decode cX5_within 5 = .ok (.iload_n 0, 1) := by decide +kernel
theorem dX5_within_6 : decode cX5_within 6 = .ok (.iload_n 2, 1) := by decide +kernel
theorem dX5_within_7 : decode cX5_within 7 = .ok (.if_icmp .gt 7, 3) := by decide +kernel
theorem dX5_within_10 : decode cX5_within 10 = .ok (.iconst 1, 1) := by decide +kernel
theorem dX5_within_11 : decode cX5_within 11 = .ok (.goto 4, 3) := by decide +kernel
theorem dX5_within_14 : decode cX5_within 14 = .ok (.iconst 0, 1) := by decide +kernel
theorem dX5_within_15 : decode cX5_within 15 = .ok (.ireturn, 1) := by decide +kernel
theorem dX5_isSheet_0 : decode cX5_isSheet 0 = .ok (.iload_n 0, 1) := by decide +kernel
theorem dX5_isSheet_1 : decode cX5_isSheet 1 = .ok (.iconst 0, 1) := by decide +kernel
theorem dX5_isSheet_2 : decode cX5_isSheet 2 = .ok (.iconst 3, 1) := by decide +kernel
theorem dX5_isSheet_3 : decode cX5_isSheet 3 = .ok (.invokestatic 49, 3) := by decide +kernel
theorem dX5_isSheet_6 : decode cX5_isSheet 6 = .ok (.ireturn, 1) := by decide +kernel
theorem dX5_isSort_0 : decode cX5_isSort 0 = .ok (.iload_n 0, 1) := by decide +kernel
theorem dX5_isSort_1 : decode cX5_isSort 1 = .ok (.iconst 0, 1) := by decide +kernel
theorem dX5_isSort_2 : decode cX5_isSort 2 = .ok (.iconst 2, 1) := by decide +kernel
theorem dX5_isSort_3 : decode cX5_isSort 3 = .ok (.invokestatic 49, 3) := by decide +kernel
theorem dX5_isSort_6 : decode cX5_isSort 6 = .ok (.ireturn, 1) := by decide +kernel
theorem dX5_against_0 : decode cX5_against 0 = .ok (.aload_n 0, 1) := by decide +kernel
theorem dX5_against_1 : decode cX5_against 1 = .ok (.getfield 9, 3) := by decide +kernel
theorem dX5_against_4 : decode cX5_against 4 = .ok (.iload_n 1, 1) := by decide +kernel
theorem dX5_against_5 : decode cX5_against 5 = .ok (.iaload, 1) := by decide +kernel
theorem dX5_against_6 : decode cX5_against 6 = .ok (.bipush (-9), 2) := by decide +kernel
theorem dX5_against_8 : decode cX5_against 8 = .ok (.if_icmp .eq 15, 3) := by decide +kernel
theorem dX5_against_11 : decode cX5_against 11 = .ok (.aload_n 0, 1) := by decide +kernel
theorem dX5_against_12 : decode cX5_against 12 = .ok (.getfield 9, 3) := by decide +kernel
theorem dX5_against_15 : decode cX5_against 15 = .ok (.iload_n 1, 1) := by decide +kernel
theorem dX5_against_16 : decode cX5_against 16 = .ok (.iaload, 1) := by decide +kernel
theorem dX5_against_17 : decode cX5_against 17 = .ok (.iload_n 2, 1) := by decide +kernel
theorem dX5_against_18 : decode cX5_against 18 = .ok (.if_icmp .eq 5, 3) := by decide +kernel
theorem dX5_against_21 : decode cX5_against 21 = .ok (.iconst 2, 1) := by decide +kernel
theorem dX5_against_22 : decode cX5_against 22 = .ok (.ireturn, 1) := by decide +kernel
theorem dX5_against_23 : decode cX5_against 23 = .ok (.aload_n 0, 1) := by decide +kernel
theorem dX5_against_24 : decode cX5_against 24 = .ok (.getfield 9, 3) := by decide +kernel
theorem dX5_against_27 : decode cX5_against 27 = .ok (.iload_n 1, 1) := by decide +kernel
theorem dX5_against_28 : decode cX5_against 28 = .ok (.iaload, 1) := by decide +kernel
theorem dX5_against_29 : decode cX5_against 29 = .ok (.bipush (-9), 2) := by decide +kernel
theorem dX5_against_31 : decode cX5_against 31 = .ok (.if_icmp .ne 5, 3) := by decide +kernel
theorem dX5_against_34 : decode cX5_against 34 = .ok (.iconst 1, 1) := by decide +kernel
theorem dX5_against_35 : decode cX5_against 35 = .ok (.ireturn, 1) := by decide +kernel
theorem dX5_against_36 : decode cX5_against 36 = .ok (.iload 4, 2) := by decide +kernel
theorem dX5_against_38 : decode cX5_against 38 = .ok (.ifCond .ge 5, 3) := by decide +kernel
theorem dX5_against_41 : decode cX5_against 41 = .ok (.iconst 4, 1) := by decide +kernel
theorem dX5_against_42 : decode cX5_against 42 = .ok (.ireturn, 1) := by decide +kernel
theorem dX5_against_43 : decode cX5_against 43 = .ok (.iload_n 3, 1) := by decide +kernel
theorem dX5_against_44 : decode cX5_against 44 = .ok (.ifCond .lt 26, 3) := by decide +kernel
theorem dX5_against_47 : decode cX5_against 47 = .ok (.iload_n 3, 1) := by decide +kernel
theorem dX5_against_48 : decode cX5_against 48 = .ok (.aload_n 0, 1) := by decide +kernel
theorem dX5_against_49 : decode cX5_against 49 = .ok (.getfield 13, 3) := by decide +kernel
theorem dX5_against_52 : decode cX5_against 52 = .ok (.iload_n 1, 1) := by decide +kernel
theorem dX5_against_53 : decode cX5_against 53 = .ok (.iaload, 1) := by decide +kernel
theorem dX5_against_54 : decode cX5_against 54 = .ok (.if_icmp .gt 16, 3) := by decide +kernel
theorem dX5_against_57 : decode cX5_against 57 = .ok (.iload 4, 2) := by decide +kernel
theorem dX5_against_59 : decode cX5_against 59 = .ok (.aload_n 0, 1) := by decide +kernel
theorem dX5_against_60 : decode cX5_against 60 = .ok (.getfield 13, 3) := by decide +kernel
theorem dX5_against_63 : decode cX5_against 63 = .ok (.iload_n 1, 1) := by decide +kernel
theorem dX5_against_64 : decode cX5_against 64 = .ok (.iaload, 1) := by decide +kernel
theorem dX5_against_65 : decode cX5_against 65 = .ok (.iload_n 3, 1) := by decide +kernel
theorem dX5_against_66 : decode cX5_against 66 = .ok (.isub, 1) := by decide +kernel
theorem dX5_against_67 : decode cX5_against 67 = .ok (.if_icmp .le 7, 3) := by decide +kernel
theorem dX5_against_70 : decode cX5_against 70 = .ok (.iconst 3, 1) := by decide +kernel
theorem dX5_against_71 : decode cX5_against 71 = .ok (.goto 4, 3) := by decide +kernel
theorem dX5_against_74 : decode cX5_against 74 = .ok (.iconst 0, 1) := by decide +kernel
theorem dX5_against_75 : decode cX5_against 75 = .ok (.ireturn, 1) := by decide +kernel
theorem dX5_cellsOf_0 : decode cX5_cellsOf 0 = .ok (.aload_n 0, 1) := by decide +kernel
theorem dX5_cellsOf_1 : decode cX5_cellsOf 1 = .ok (.getfield 53, 3) := by decide +kernel
theorem dX5_cellsOf_4 : decode cX5_cellsOf 4 = .ok (.aload_n 0, 1) := by decide +kernel
theorem dX5_cellsOf_5 : decode cX5_cellsOf 5 = .ok (.getfield 56, 3) := by decide +kernel
theorem dX5_cellsOf_8 : decode cX5_cellsOf 8 = .ok (.imul, 1) := by decide +kernel
theorem dX5_cellsOf_9 : decode cX5_cellsOf 9 = .ok (.ireturn, 1) := by decide +kernel
theorem dX5_isCell_0 : decode cX5_isCell 0 = .ok (.iload_n 1, 1) := by decide +kernel
theorem dX5_isCell_1 : decode cX5_isCell 1 = .ok (.ifCond .lt 15, 3) := by decide +kernel
theorem dX5_isCell_4 : decode cX5_isCell 4 = .ok (.iload_n 1, 1) := by decide +kernel
theorem dX5_isCell_5 : decode cX5_isCell 5 = .ok (.aload_n 0, 1) := by decide +kernel
theorem dX5_isCell_6 : decode cX5_isCell 6 = .ok (.invokevirtual 59, 3) := by decide +kernel
theorem dX5_isCell_9 : decode cX5_isCell 9 = .ok (.if_icmp .ge 7, 3) := by decide +kernel
theorem dX5_isCell_12 : decode cX5_isCell 12 = .ok (.iconst 1, 1) := by decide +kernel
theorem dX5_isCell_13 : decode cX5_isCell 13 = .ok (.goto 4, 3) := by decide +kernel
theorem dX5_isCell_16 : decode cX5_isCell 16 = .ok (.iconst 0, 1) := by decide +kernel
theorem dX5_isCell_17 : decode cX5_isCell 17 = .ok (.ireturn, 1) := by decide +kernel
theorem dX5_isDigit_0 : decode cX5_isDigit 0 = .ok (.iload_n 0, 1) := by decide +kernel
theorem dX5_isDigit_1 : decode cX5_isDigit 1 = .ok (.iconst 0, 1) := by decide +kernel
theorem dX5_isDigit_2 : decode cX5_isDigit 2 = .ok (.bipush 9, 2) := by decide +kernel
theorem dX5_isDigit_4 : decode cX5_isDigit 4 = .ok (.invokestatic 49, 3) := by decide +kernel
theorem dX5_isDigit_7 : decode cX5_isDigit 7 = .ok (.ireturn, 1) := by decide +kernel
theorem dX5_isOf_0 : decode cX5_isOf 0 = .ok (.iload_n 0, 1) := by decide +kernel
theorem dX5_isOf_1 : decode cX5_isOf 1 = .ok (.iload_n 1, 1) := by decide +kernel
theorem dX5_isOf_2 : decode cX5_isOf 2 = .ok (.ishr, 1) := by decide +kernel
theorem dX5_isOf_3 : decode cX5_isOf 3 = .ok (.iconst 1, 1) := by decide +kernel
theorem dX5_isOf_4 : decode cX5_isOf 4 = .ok (.iand, 1) := by decide +kernel
theorem dX5_isOf_5 : decode cX5_isOf 5 = .ok (.iconst 1, 1) := by decide +kernel
theorem dX5_isOf_6 : decode cX5_isOf 6 = .ok (.if_icmp .ne 7, 3) := by decide +kernel
theorem dX5_isOf_9 : decode cX5_isOf 9 = .ok (.iconst 1, 1) := by decide +kernel
theorem dX5_isOf_10 : decode cX5_isOf 10 = .ok (.goto 4, 3) := by decide +kernel
theorem dX5_isOf_13 : decode cX5_isOf 13 = .ok (.iconst 0, 1) := by decide +kernel
theorem dX5_isOf_14 : decode cX5_isOf 14 = .ok (.ireturn, 1) := by decide +kernel
theorem dX5_size_0 : decode cX5_size 0 = .ok (.iconst 0, 1) := by decide +kernel
theorem dX5_size_1 : decode cX5_size 1 = .ok (.istore_n 1, 1) := by decide +kernel
theorem dX5_size_2 : decode cX5_size 2 = .ok (.iload_n 0, 1) := by decide +kernel
theorem dX5_size_3 : decode cX5_size 3 = .ok (.istore_n 2, 1) := by decide +kernel
theorem dX5_size_4 : decode cX5_size 4 = .ok (.iload_n 2, 1) := by decide +kernel
theorem dX5_size_5 : decode cX5_size 5 = .ok (.ifCond .le 16, 3) := by decide +kernel
theorem dX5_size_8 : decode cX5_size 8 = .ok (.iload_n 1, 1) := by decide +kernel
theorem dX5_size_9 : decode cX5_size 9 = .ok (.iload_n 2, 1) := by decide +kernel
theorem dX5_size_10 : decode cX5_size 10 = .ok (.iconst 1, 1) := by decide +kernel
theorem dX5_size_11 : decode cX5_size 11 = .ok (.iand, 1) := by decide +kernel
theorem dX5_size_12 : decode cX5_size 12 = .ok (.iadd, 1) := by decide +kernel
theorem dX5_size_13 : decode cX5_size 13 = .ok (.istore_n 1, 1) := by decide +kernel
theorem dX5_size_14 : decode cX5_size 14 = .ok (.iload_n 2, 1) := by decide +kernel
theorem dX5_size_15 : decode cX5_size 15 = .ok (.iconst 1, 1) := by decide +kernel
theorem dX5_size_16 : decode cX5_size 16 = .ok (.ishr, 1) := by decide +kernel
theorem dX5_size_17 : decode cX5_size 17 = .ok (.istore_n 2, 1) := by decide +kernel
theorem dX5_size_18 : decode cX5_size 18 = .ok (.goto (-14), 3) := by decide +kernel
theorem dX5_size_21 : decode cX5_size 21 = .ok (.iload_n 1, 1) := by decide +kernel
theorem dX5_size_22 : decode cX5_size 22 = .ok (.ireturn, 1) := by decide +kernel
theorem dX5_digit_0 : decode cX5_digit 0 = .ok (.aload_n 0, 1) := by decide +kernel
theorem dX5_digit_1 : decode cX5_digit 1 = .ok (.getfield 63, 3) := by decide +kernel
theorem dX5_digit_4 : decode cX5_digit 4 = .ok (.iload_n 1, 1) := by decide +kernel
theorem dX5_digit_5 : decode cX5_digit 5 = .ok (.if_icmp .ge 26, 3) := by decide +kernel
theorem dX5_digit_8 : decode cX5_digit 8 = .ok (.aload_n 0, 1) := by decide +kernel
theorem dX5_digit_9 : decode cX5_digit 9 = .ok (.getfield 16, 3) := by decide +kernel
theorem dX5_digit_12 : decode cX5_digit 12 = .ok (.aload_n 0, 1) := by decide +kernel
theorem dX5_digit_13 : decode cX5_digit 13 = .ok (.getfield 63, 3) := by decide +kernel
theorem dX5_digit_16 : decode cX5_digit 16 = .ok (.iaload, 1) := by decide +kernel
theorem dX5_digit_17 : decode cX5_digit 17 = .ok (.bipush 48, 2) := by decide +kernel
theorem dX5_digit_19 : decode cX5_digit 19 = .ok (.iload_n 2, 1) := by decide +kernel
theorem dX5_digit_20 : decode cX5_digit 20 = .ok (.iadd, 1) := by decide +kernel
theorem dX5_digit_21 : decode cX5_digit 21 = .ok (.bipush 48, 2) := by decide +kernel
theorem dX5_digit_23 : decode cX5_digit 23 = .ok (.iload_n 3, 1) := by decide +kernel
theorem dX5_digit_24 : decode cX5_digit 24 = .ok (.iadd, 1) := by decide +kernel
theorem dX5_digit_25 : decode cX5_digit 25 = .ok (.invokestatic 49, 3) := by decide +kernel
theorem dX5_digit_28 : decode cX5_digit 28 = .ok (.ifCond .ne 6, 3) := by decide +kernel
theorem dX5_digit_31 : decode cX5_digit 31 = .ok (.bipush (-9), 2) := by decide +kernel
theorem dX5_digit_33 : decode cX5_digit 33 = .ok (.ireturn, 1) := by decide +kernel
theorem dX5_digit_34 : decode cX5_digit 34 = .ok (.aload_n 0, 1) := by decide +kernel
theorem dX5_digit_35 : decode cX5_digit 35 = .ok (.dup, 1) := by decide +kernel
theorem dX5_digit_36 : decode cX5_digit 36 = .ok (.getfield 63, 3) := by decide +kernel
theorem dX5_digit_39 : decode cX5_digit 39 = .ok (.iconst 1, 1) := by decide +kernel
theorem dX5_digit_40 : decode cX5_digit 40 = .ok (.iadd, 1) := by decide +kernel
theorem dX5_digit_41 : decode cX5_digit 41 = .ok (.putfield 63, 3) := by decide +kernel
theorem dX5_digit_44 : decode cX5_digit 44 = .ok (.aload_n 0, 1) := by decide +kernel
theorem dX5_digit_45 : decode cX5_digit 45 = .ok (.getfield 16, 3) := by decide +kernel
theorem dX5_digit_48 : decode cX5_digit 48 = .ok (.aload_n 0, 1) := by decide +kernel
theorem dX5_digit_49 : decode cX5_digit 49 = .ok (.getfield 63, 3) := by decide +kernel
theorem dX5_digit_52 : decode cX5_digit 52 = .ok (.iconst 1, 1) := by decide +kernel
theorem dX5_digit_53 : decode cX5_digit 53 = .ok (.isub, 1) := by decide +kernel
theorem dX5_digit_54 : decode cX5_digit 54 = .ok (.iaload, 1) := by decide +kernel
theorem dX5_digit_55 : decode cX5_digit 55 = .ok (.bipush 48, 2) := by decide +kernel
theorem dX5_digit_57 : decode cX5_digit 57 = .ok (.isub, 1) := by decide +kernel
theorem dX5_digit_58 : decode cX5_digit 58 = .ok (.ireturn, 1) := by decide +kernel
theorem dX5_bay_0 : decode cX5_bay 0 = .ok (.aload_n 0, 1) := by decide +kernel
theorem dX5_bay_1 : decode cX5_bay 1 = .ok (.iconst 0, 1) := by decide +kernel
theorem dX5_bay_2 : decode cX5_bay 2 = .ok (.putfield 43, 3) := by decide +kernel
theorem dX5_bay_5 : decode cX5_bay 5 = .ok (.iload_n 1, 1) := by decide +kernel
theorem dX5_bay_6 : decode cX5_bay 6 = .ok (.invokestatic 66, 3) := by decide +kernel
theorem dX5_bay_9 : decode cX5_bay 9 = .ok (.ifCond .ne 5, 3) := by decide +kernel
theorem dX5_bay_12 : decode cX5_bay 12 = .ok (.iconst (-1), 1) := by decide +kernel
theorem dX5_bay_13 : decode cX5_bay 13 = .ok (.ireturn, 1) := by decide +kernel
theorem dX5_bay_14 : decode cX5_bay 14 = .ok (.iload_n 2, 1) := by decide +kernel
theorem dX5_bay_15 : decode cX5_bay 15 = .ok (.invokestatic 70, 3) := by decide +kernel
theorem dX5_bay_18 : decode cX5_bay 18 = .ok (.ifCond .ne 6, 3) := by decide +kernel
theorem dX5_bay_21 : decode cX5_bay 21 = .ok (.bipush (-2), 2) := by decide +kernel
theorem dX5_bay_23 : decode cX5_bay 23 = .ok (.ireturn, 1) := by decide +kernel
theorem dX5_bay_24 : decode cX5_bay 24 = .ok (.aload_n 0, 1) := by decide +kernel
theorem dX5_bay_25 : decode cX5_bay 25 = .ok (.iload_n 1, 1) := by decide +kernel
theorem dX5_bay_26 : decode cX5_bay 26 = .ok (.iload_n 2, 1) := by decide +kernel
theorem dX5_bay_27 : decode cX5_bay 27 = .ok (.iload_n 3, 1) := by decide +kernel
theorem dX5_bay_28 : decode cX5_bay 28 = .ok (.iload 4, 2) := by decide +kernel
theorem dX5_bay_30 : decode cX5_bay 30 = .ok (.invokevirtual 73, 3) := by decide +kernel
theorem dX5_bay_33 : decode cX5_bay 33 = .ok (.istore 5, 2) := by decide +kernel
theorem dX5_bay_35 : decode cX5_bay 35 = .ok (.iload 5, 2) := by decide +kernel
theorem dX5_bay_37 : decode cX5_bay 37 = .ok (.ifCond .eq 10, 3) := by decide +kernel
theorem dX5_bay_40 : decode cX5_bay 40 = .ok (.aload_n 0, 1) := by decide +kernel
theorem dX5_bay_41 : decode cX5_bay 41 = .ok (.iload 5, 2) := by decide +kernel
theorem dX5_bay_43 : decode cX5_bay 43 = .ok (.invokevirtual 77, 3) := by decide +kernel
theorem dX5_bay_46 : decode cX5_bay 46 = .ok (.ireturn, 1) := by decide +kernel
theorem dX5_bay_47 : decode cX5_bay 47 = .ok (.bipush 60, 2) := by decide +kernel
theorem dX5_bay_49 : decode cX5_bay 49 = .ok (.iload_n 1, 1) := by decide +kernel
theorem dX5_bay_50 : decode cX5_bay 50 = .ok (.imul, 1) := by decide +kernel
theorem dX5_bay_51 : decode cX5_bay 51 = .ok (.iload_n 3, 1) := by decide +kernel
theorem dX5_bay_52 : decode cX5_bay 52 = .ok (.iadd, 1) := by decide +kernel
theorem dX5_bay_53 : decode cX5_bay 53 = .ok (.istore 6, 2) := by decide +kernel
theorem dX5_bay_55 : decode cX5_bay 55 = .ok (.aload_n 0, 1) := by decide +kernel
theorem dX5_bay_56 : decode cX5_bay 56 = .ok (.iload 6, 2) := by decide +kernel
theorem dX5_bay_58 : decode cX5_bay 58 = .ok (.putfield 63, 3) := by decide +kernel
theorem dX5_bay_61 : decode cX5_bay 61 = .ok (.aload_n 0, 1) := by decide +kernel
theorem dX5_bay_62 : decode cX5_bay 62 = .ok (.iload 6, 2) := by decide +kernel
theorem dX5_bay_64 : decode cX5_bay 64 = .ok (.iload 4, 2) := by decide +kernel
theorem dX5_bay_66 : decode cX5_bay 66 = .ok (.iadd, 1) := by decide +kernel
theorem dX5_bay_67 : decode cX5_bay 67 = .ok (.invokevirtual 81, 3) := by decide +kernel
theorem dX5_bay_70 : decode cX5_bay 70 = .ok (.ifCond .ne 14, 3) := by decide +kernel
theorem dX5_bay_73 : decode cX5_bay 73 = .ok (.bipush (-100), 2) := by decide +kernel
theorem dX5_bay_75 : decode cX5_bay 75 = .ok (.aload_n 0, 1) := by decide +kernel
theorem dX5_bay_76 : decode cX5_bay 76 = .ok (.getfield 63, 3) := by decide +kernel
theorem dX5_bay_79 : decode cX5_bay 79 = .ok (.iload 6, 2) := by decide +kernel
theorem dX5_bay_81 : decode cX5_bay 81 = .ok (.isub, 1) := by decide +kernel
theorem dX5_bay_82 : decode cX5_bay 82 = .ok (.isub, 1) := by decide +kernel
theorem dX5_bay_83 : decode cX5_bay 83 = .ok (.ireturn, 1) := by decide +kernel
theorem dX5_bay_84 : decode cX5_bay 84 = .ok (.aload_n 0, 1) := by decide +kernel
theorem dX5_bay_85 : decode cX5_bay 85 = .ok (.invokevirtual 84, 3) := by decide +kernel
theorem dX5_bay_88 : decode cX5_bay 88 = .ok (.aload_n 0, 1) := by decide +kernel
theorem dX5_bay_89 : decode cX5_bay 89 = .ok (.invokevirtual 59, 3) := by decide +kernel
theorem dX5_bay_92 : decode cX5_bay 92 = .ok (.ireturn, 1) := by decide +kernel
theorem dX5_takeBay_0 : decode cX5_takeBay 0 = .ok (.aload_n 0, 1) := by decide +kernel
theorem dX5_takeBay_1 : decode cX5_takeBay 1 = .ok (.aload_n 0, 1) := by decide +kernel
theorem dX5_takeBay_2 : decode cX5_takeBay 2 = .ok (.getfield 87, 3) := by decide +kernel
theorem dX5_takeBay_5 : decode cX5_takeBay 5 = .ok (.putfield 90, 3) := by decide +kernel
theorem dX5_takeBay_8 : decode cX5_takeBay 8 = .ok (.aload_n 0, 1) := by decide +kernel
theorem dX5_takeBay_9 : decode cX5_takeBay 9 = .ok (.aload_n 0, 1) := by decide +kernel
theorem dX5_takeBay_10 : decode cX5_takeBay 10 = .ok (.getfield 93, 3) := by decide +kernel
theorem dX5_takeBay_13 : decode cX5_takeBay 13 = .ok (.putfield 53, 3) := by decide +kernel
theorem dX5_takeBay_16 : decode cX5_takeBay 16 = .ok (.aload_n 0, 1) := by decide +kernel
theorem dX5_takeBay_17 : decode cX5_takeBay 17 = .ok (.aload_n 0, 1) := by decide +kernel
theorem dX5_takeBay_18 : decode cX5_takeBay 18 = .ok (.getfield 96, 3) := by decide +kernel
theorem dX5_takeBay_21 : decode cX5_takeBay 21 = .ok (.putfield 56, 3) := by decide +kernel
theorem dX5_takeBay_24 : decode cX5_takeBay 24 = .ok (.aload_n 0, 1) := by decide +kernel
theorem dX5_takeBay_25 : decode cX5_takeBay 25 = .ok (.iconst 0, 1) := by decide +kernel
theorem dX5_takeBay_26 : decode cX5_takeBay 26 = .ok (.putfield 99, 3) := by decide +kernel
theorem dX5_takeBay_29 : decode cX5_takeBay 29 = .ok (.iconst 0, 1) := by decide +kernel
theorem dX5_takeBay_30 : decode cX5_takeBay 30 = .ok (.istore_n 1, 1) := by decide +kernel
theorem dX5_takeBay_31 : decode cX5_takeBay 31 = .ok (.iload_n 1, 1) := by decide +kernel
theorem dX5_takeBay_32 : decode cX5_takeBay 32 = .ok (.aload_n 0, 1) := by decide +kernel
theorem dX5_takeBay_33 : decode cX5_takeBay 33 = .ok (.invokevirtual 59, 3) := by decide +kernel
theorem dX5_takeBay_36 : decode cX5_takeBay 36 = .ok (.if_icmp .ge 33, 3) := by decide +kernel
theorem dX5_takeBay_39 : decode cX5_takeBay 39 = .ok (.aload_n 0, 1) := by decide +kernel
theorem dX5_takeBay_40 : decode cX5_takeBay 40 = .ok (.getfield 19, 3) := by decide +kernel
theorem dX5_takeBay_43 : decode cX5_takeBay 43 = .ok (.iload_n 1, 1) := by decide +kernel
theorem dX5_takeBay_44 : decode cX5_takeBay 44 = .ok (.aload_n 0, 1) := by decide +kernel
theorem dX5_takeBay_45 : decode cX5_takeBay 45 = .ok (.getfield 25, 3) := by decide +kernel
theorem dX5_takeBay_48 : decode cX5_takeBay 48 = .ok (.iload_n 1, 1) := by decide +kernel
theorem dX5_takeBay_49 : decode cX5_takeBay 49 = .ok (.iaload, 1) := by decide +kernel
theorem dX5_takeBay_50 : decode cX5_takeBay 50 = .ok (.iastore, 1) := by decide +kernel
theorem dX5_takeBay_51 : decode cX5_takeBay 51 = .ok (.aload_n 0, 1) := by decide +kernel
theorem dX5_takeBay_52 : decode cX5_takeBay 52 = .ok (.getfield 22, 3) := by decide +kernel
theorem dX5_takeBay_55 : decode cX5_takeBay 55 = .ok (.iload_n 1, 1) := by decide +kernel
theorem dX5_takeBay_56 : decode cX5_takeBay 56 = .ok (.aload_n 0, 1) := by decide +kernel
theorem dX5_takeBay_57 : decode cX5_takeBay 57 = .ok (.getfield 28, 3) := by decide +kernel
theorem dX5_takeBay_60 : decode cX5_takeBay 60 = .ok (.iload_n 1, 1) := by decide +kernel
theorem dX5_takeBay_61 : decode cX5_takeBay 61 = .ok (.iaload, 1) := by decide +kernel
theorem dX5_takeBay_62 : decode cX5_takeBay 62 = .ok (.iastore, 1) := by decide +kernel
theorem dX5_takeBay_63 : decode cX5_takeBay 63 = .ok (.iinc 1 1, 3) := by decide +kernel
theorem dX5_takeBay_66 : decode cX5_takeBay 66 = .ok (.goto (-35), 3) := by decide +kernel
theorem dX5_takeBay_69 : decode cX5_takeBay 69 = .ok (.aload_n 0, 1) := by decide +kernel
theorem dX5_takeBay_70 : decode cX5_takeBay 70 = .ok (.iconst 0, 1) := by decide +kernel
theorem dX5_takeBay_71 : decode cX5_takeBay 71 = .ok (.putfield 102, 3) := by decide +kernel
theorem dX5_takeBay_74 : decode cX5_takeBay 74 = .ok (.return_, 1) := by decide +kernel
theorem dX5_readBay_0 : decode cX5_readBay 0 = .ok (.aload_n 0, 1) := by decide +kernel
theorem dX5_readBay_1 : decode cX5_readBay 1 = .ok (.getfield 63, 3) := by decide +kernel
theorem dX5_readBay_4 : decode cX5_readBay 4 = .ok (.iload_n 1, 1) := by decide +kernel
theorem dX5_readBay_5 : decode cX5_readBay 5 = .ok (.if_icmp .ge 17, 3) := by decide +kernel
theorem dX5_readBay_8 : decode cX5_readBay 8 = .ok (.aload_n 0, 1) := by decide +kernel
theorem dX5_readBay_9 : decode cX5_readBay 9 = .ok (.getfield 16, 3) := by decide +kernel
theorem dX5_readBay_12 : decode cX5_readBay 12 = .ok (.aload_n 0, 1) := by decide +kernel
theorem dX5_readBay_13 : decode cX5_readBay 13 = .ok (.getfield 63, 3) := by decide +kernel
theorem dX5_readBay_16 : decode cX5_readBay 16 = .ok (.iaload, 1) := by decide +kernel
theorem dX5_readBay_17 : decode cX5_readBay 17 = .ok (.bipush 98, 2) := by decide +kernel
theorem dX5_readBay_19 : decode cX5_readBay 19 = .ok (.if_icmp .eq 5, 3) := by decide +kernel
theorem dX5_readBay_22 : decode cX5_readBay 22 = .ok (.iconst 0, 1) := by decide +kernel
theorem dX5_readBay_23 : decode cX5_readBay 23 = .ok (.ireturn, 1) := by decide +kernel
theorem dX5_readBay_24 : decode cX5_readBay 24 = .ok (.aload_n 0, 1) := by decide +kernel
theorem dX5_readBay_25 : decode cX5_readBay 25 = .ok (.dup, 1) := by decide +kernel
theorem dX5_readBay_26 : decode cX5_readBay 26 = .ok (.getfield 63, 3) := by decide +kernel
theorem dX5_readBay_29 : decode cX5_readBay 29 = .ok (.iconst 1, 1) := by decide +kernel
theorem dX5_readBay_30 : decode cX5_readBay 30 = .ok (.iadd, 1) := by decide +kernel
theorem dX5_readBay_31 : decode cX5_readBay 31 = .ok (.putfield 63, 3) := by decide +kernel
theorem dX5_readBay_34 : decode cX5_readBay 34 = .ok (.aload_n 0, 1) := by decide +kernel
theorem dX5_readBay_35 : decode cX5_readBay 35 = .ok (.aload_n 0, 1) := by decide +kernel
theorem dX5_readBay_36 : decode cX5_readBay 36 = .ok (.iload_n 1, 1) := by decide +kernel
theorem dX5_readBay_37 : decode cX5_readBay 37 = .ok (.iconst 0, 1) := by decide +kernel
theorem dX5_readBay_38 : decode cX5_readBay 38 = .ok (.bipush 9, 2) := by decide +kernel
theorem dX5_readBay_40 : decode cX5_readBay 40 = .ok (.invokevirtual 105, 3) := by decide +kernel
theorem dX5_readBay_43 : decode cX5_readBay 43 = .ok (.putfield 87, 3) := by decide +kernel
theorem dX5_readBay_46 : decode cX5_readBay 46 = .ok (.aload_n 0, 1) := by decide +kernel
theorem dX5_readBay_47 : decode cX5_readBay 47 = .ok (.getfield 87, 3) := by decide +kernel
theorem dX5_readBay_50 : decode cX5_readBay 50 = .ok (.bipush (-9), 2) := by decide +kernel
theorem dX5_readBay_52 : decode cX5_readBay 52 = .ok (.if_icmp .ne 5, 3) := by decide +kernel
theorem dX5_readBay_55 : decode cX5_readBay 55 = .ok (.iconst 0, 1) := by decide +kernel
theorem dX5_readBay_56 : decode cX5_readBay 56 = .ok (.ireturn, 1) := by decide +kernel
theorem dX5_readBay_57 : decode cX5_readBay 57 = .ok (.aload_n 0, 1) := by decide +kernel
theorem dX5_readBay_58 : decode cX5_readBay 58 = .ok (.aload_n 0, 1) := by decide +kernel
theorem dX5_readBay_59 : decode cX5_readBay 59 = .ok (.iload_n 1, 1) := by decide +kernel
theorem dX5_readBay_60 : decode cX5_readBay 60 = .ok (.iconst 2, 1) := by decide +kernel
theorem dX5_readBay_61 : decode cX5_readBay 61 = .ok (.iconst 4, 1) := by decide +kernel
theorem dX5_readBay_62 : decode cX5_readBay 62 = .ok (.invokevirtual 105, 3) := by decide +kernel
theorem dX5_readBay_65 : decode cX5_readBay 65 = .ok (.putfield 93, 3) := by decide +kernel
theorem dX5_readBay_68 : decode cX5_readBay 68 = .ok (.aload_n 0, 1) := by decide +kernel
theorem dX5_readBay_69 : decode cX5_readBay 69 = .ok (.getfield 93, 3) := by decide +kernel
theorem dX5_readBay_72 : decode cX5_readBay 72 = .ok (.bipush (-9), 2) := by decide +kernel
theorem dX5_readBay_74 : decode cX5_readBay 74 = .ok (.if_icmp .ne 5, 3) := by decide +kernel
theorem dX5_readBay_77 : decode cX5_readBay 77 = .ok (.iconst 0, 1) := by decide +kernel
theorem dX5_readBay_78 : decode cX5_readBay 78 = .ok (.ireturn, 1) := by decide +kernel
theorem dX5_readBay_79 : decode cX5_readBay 79 = .ok (.aload_n 0, 1) := by decide +kernel
theorem dX5_readBay_80 : decode cX5_readBay 80 = .ok (.aload_n 0, 1) := by decide +kernel
theorem dX5_readBay_81 : decode cX5_readBay 81 = .ok (.iload_n 1, 1) := by decide +kernel
theorem dX5_readBay_82 : decode cX5_readBay 82 = .ok (.iconst 2, 1) := by decide +kernel
theorem dX5_readBay_83 : decode cX5_readBay 83 = .ok (.iconst 3, 1) := by decide +kernel
theorem dX5_readBay_84 : decode cX5_readBay 84 = .ok (.invokevirtual 105, 3) := by decide +kernel
theorem dX5_readBay_87 : decode cX5_readBay 87 = .ok (.putfield 96, 3) := by decide +kernel
theorem dX5_readBay_90 : decode cX5_readBay 90 = .ok (.aload_n 0, 1) := by decide +kernel
theorem dX5_readBay_91 : decode cX5_readBay 91 = .ok (.getfield 96, 3) := by decide +kernel
theorem dX5_readBay_94 : decode cX5_readBay 94 = .ok (.bipush (-9), 2) := by decide +kernel
theorem dX5_readBay_96 : decode cX5_readBay 96 = .ok (.if_icmp .ne 5, 3) := by decide +kernel
theorem dX5_readBay_99 : decode cX5_readBay 99 = .ok (.iconst 0, 1) := by decide +kernel
theorem dX5_readBay_100 : decode cX5_readBay 100 = .ok (.ireturn, 1) := by decide +kernel
theorem dX5_readBay_101 : decode cX5_readBay 101 = .ok (.iconst 0, 1) := by decide +kernel
theorem dX5_readBay_102 : decode cX5_readBay 102 = .ok (.istore_n 2, 1) := by decide +kernel
theorem dX5_readBay_103 : decode cX5_readBay 103 = .ok (.iload_n 2, 1) := by decide +kernel
theorem dX5_readBay_104 : decode cX5_readBay 104 = .ok (.aload_n 0, 1) := by decide +kernel
theorem dX5_readBay_105 : decode cX5_readBay 105 = .ok (.getfield 93, 3) := by decide +kernel
theorem dX5_readBay_108 : decode cX5_readBay 108 = .ok (.aload_n 0, 1) := by decide +kernel
theorem dX5_readBay_109 : decode cX5_readBay 109 = .ok (.getfield 96, 3) := by decide +kernel
theorem dX5_readBay_112 : decode cX5_readBay 112 = .ok (.imul, 1) := by decide +kernel
theorem dX5_readBay_113 : decode cX5_readBay 113 = .ok (.if_icmp .ge 20, 3) := by decide +kernel
theorem dX5_readBay_116 : decode cX5_readBay 116 = .ok (.aload_n 0, 1) := by decide +kernel
theorem dX5_readBay_117 : decode cX5_readBay 117 = .ok (.iload_n 1, 1) := by decide +kernel
theorem dX5_readBay_118 : decode cX5_readBay 118 = .ok (.iload_n 2, 1) := by decide +kernel
theorem dX5_readBay_119 : decode cX5_readBay 119 = .ok (.invokevirtual 109, 3) := by decide +kernel
theorem dX5_readBay_122 : decode cX5_readBay 122 = .ok (.ifCond .ne 5, 3) := by decide +kernel
theorem dX5_readBay_125 : decode cX5_readBay 125 = .ok (.iconst 0, 1) := by decide +kernel
theorem dX5_readBay_126 : decode cX5_readBay 126 = .ok (.ireturn, 1) := by decide +kernel
theorem dX5_readBay_127 : decode cX5_readBay 127 = .ok (.iinc 2 1, 3) := by decide +kernel
theorem dX5_readBay_130 : decode cX5_readBay 130 = .ok (.goto (-27), 3) := by decide +kernel
theorem dX5_readBay_133 : decode cX5_readBay 133 = .ok (.aload_n 0, 1) := by decide +kernel
theorem dX5_readBay_134 : decode cX5_readBay 134 = .ok (.getfield 63, 3) := by decide +kernel
theorem dX5_readBay_137 : decode cX5_readBay 137 = .ok (.iload_n 1, 1) := by decide +kernel
theorem dX5_readBay_138 : decode cX5_readBay 138 = .ok (.if_icmp .ne 7, 3) := by decide +kernel
theorem dX5_readBay_141 : decode cX5_readBay 141 = .ok (.iconst 1, 1) := by decide +kernel
theorem dX5_readBay_142 : decode cX5_readBay 142 = .ok (.goto 4, 3) := by decide +kernel
theorem dX5_readBay_145 : decode cX5_readBay 145 = .ok (.iconst 0, 1) := by decide +kernel
theorem dX5_readBay_146 : decode cX5_readBay 146 = .ok (.ireturn, 1) := by decide +kernel
theorem dX5_readCell_0 : decode cX5_readCell 0 = .ok (.aload_n 0, 1) := by decide +kernel
theorem dX5_readCell_1 : decode cX5_readCell 1 = .ok (.getfield 63, 3) := by decide +kernel
theorem dX5_readCell_4 : decode cX5_readCell 4 = .ok (.iload_n 1, 1) := by decide +kernel
theorem dX5_readCell_5 : decode cX5_readCell 5 = .ok (.if_icmp .ge 15, 3) := by decide +kernel
theorem dX5_readCell_8 : decode cX5_readCell 8 = .ok (.aload_n 0, 1) := by decide +kernel
theorem dX5_readCell_9 : decode cX5_readCell 9 = .ok (.getfield 16, 3) := by decide +kernel
theorem dX5_readCell_12 : decode cX5_readCell 12 = .ok (.aload_n 0, 1) := by decide +kernel
theorem dX5_readCell_13 : decode cX5_readCell 13 = .ok (.getfield 63, 3) := by decide +kernel
theorem dX5_readCell_16 : decode cX5_readCell 16 = .ok (.iaload, 1) := by decide +kernel
theorem dX5_readCell_17 : decode cX5_readCell 17 = .ok (.goto 4, 3) := by decide +kernel
theorem dX5_readCell_20 : decode cX5_readCell 20 = .ok (.iconst 0, 1) := by decide +kernel
theorem dX5_readCell_21 : decode cX5_readCell 21 = .ok (.istore_n 3, 1) := by decide +kernel
theorem dX5_readCell_22 : decode cX5_readCell 22 = .ok (.aload_n 0, 1) := by decide +kernel
theorem dX5_readCell_23 : decode cX5_readCell 23 = .ok (.getfield 25, 3) := by decide +kernel
theorem dX5_readCell_26 : decode cX5_readCell 26 = .ok (.iload_n 2, 1) := by decide +kernel
theorem dX5_readCell_27 : decode cX5_readCell 27 = .ok (.iload_n 3, 1) := by decide +kernel
theorem dX5_readCell_28 : decode cX5_readCell 28 = .ok (.bipush 109, 2) := by decide +kernel
theorem dX5_readCell_30 : decode cX5_readCell 30 = .ok (.if_icmp .ne 7, 3) := by decide +kernel
theorem dX5_readCell_33 : decode cX5_readCell 33 = .ok (.iconst 0, 1) := by decide +kernel
theorem dX5_readCell_34 : decode cX5_readCell 34 = .ok (.goto 25, 3) := by decide +kernel
theorem dX5_readCell_37 : decode cX5_readCell 37 = .ok (.iload_n 3, 1) := by decide +kernel
theorem dX5_readCell_38 : decode cX5_readCell 38 = .ok (.bipush 115, 2) := by decide +kernel
theorem dX5_readCell_40 : decode cX5_readCell 40 = .ok (.if_icmp .ne 7, 3) := by decide +kernel
theorem dX5_readCell_43 : decode cX5_readCell 43 = .ok (.iconst 1, 1) := by decide +kernel
theorem dX5_readCell_44 : decode cX5_readCell 44 = .ok (.goto 15, 3) := by decide +kernel
theorem dX5_readCell_47 : decode cX5_readCell 47 = .ok (.iload_n 3, 1) := by decide +kernel
theorem dX5_readCell_48 : decode cX5_readCell 48 = .ok (.bipush 99, 2) := by decide +kernel
theorem dX5_readCell_50 : decode cX5_readCell 50 = .ok (.if_icmp .ne 7, 3) := by decide +kernel
theorem dX5_readCell_53 : decode cX5_readCell 53 = .ok (.iconst 2, 1) := by decide +kernel
theorem dX5_readCell_54 : decode cX5_readCell 54 = .ok (.goto 5, 3) := by decide +kernel
theorem dX5_readCell_57 : decode cX5_readCell 57 = .ok (.bipush (-9), 2) := by decide +kernel
theorem dX5_readCell_59 : decode cX5_readCell 59 = .ok (.iastore, 1) := by decide +kernel
theorem dX5_readCell_60 : decode cX5_readCell 60 = .ok (.aload_n 0, 1) := by decide +kernel
theorem dX5_readCell_61 : decode cX5_readCell 61 = .ok (.getfield 25, 3) := by decide +kernel
theorem dX5_readCell_64 : decode cX5_readCell 64 = .ok (.iload_n 2, 1) := by decide +kernel
theorem dX5_readCell_65 : decode cX5_readCell 65 = .ok (.iaload, 1) := by decide +kernel
theorem dX5_readCell_66 : decode cX5_readCell 66 = .ok (.bipush (-9), 2) := by decide +kernel
theorem dX5_readCell_68 : decode cX5_readCell 68 = .ok (.if_icmp .ne 5, 3) := by decide +kernel
theorem dX5_readCell_71 : decode cX5_readCell 71 = .ok (.iconst 0, 1) := by decide +kernel
theorem dX5_readCell_72 : decode cX5_readCell 72 = .ok (.ireturn, 1) := by decide +kernel
theorem dX5_readCell_73 : decode cX5_readCell 73 = .ok (.aload_n 0, 1) := by decide +kernel
theorem dX5_readCell_74 : decode cX5_readCell 74 = .ok (.dup, 1) := by decide +kernel
theorem dX5_readCell_75 : decode cX5_readCell 75 = .ok (.getfield 63, 3) := by decide +kernel
theorem dX5_readCell_78 : decode cX5_readCell 78 = .ok (.iconst 1, 1) := by decide +kernel
theorem dX5_readCell_79 : decode cX5_readCell 79 = .ok (.iadd, 1) := by decide +kernel
theorem dX5_readCell_80 : decode cX5_readCell 80 = .ok (.putfield 63, 3) := by decide +kernel
theorem dX5_readCell_83 : decode cX5_readCell 83 = .ok (.aload_n 0, 1) := by decide +kernel
theorem dX5_readCell_84 : decode cX5_readCell 84 = .ok (.getfield 28, 3) := by decide +kernel
theorem dX5_readCell_87 : decode cX5_readCell 87 = .ok (.iload_n 2, 1) := by decide +kernel
theorem dX5_readCell_88 : decode cX5_readCell 88 = .ok (.aload_n 0, 1) := by decide +kernel
theorem dX5_readCell_89 : decode cX5_readCell 89 = .ok (.iload_n 1, 1) := by decide +kernel
theorem dX5_readCell_90 : decode cX5_readCell 90 = .ok (.iconst 0, 1) := by decide +kernel
theorem dX5_readCell_91 : decode cX5_readCell 91 = .ok (.bipush 9, 2) := by decide +kernel
theorem dX5_readCell_93 : decode cX5_readCell 93 = .ok (.invokevirtual 105, 3) := by decide +kernel
theorem dX5_readCell_96 : decode cX5_readCell 96 = .ok (.iastore, 1) := by decide +kernel
theorem dX5_readCell_97 : decode cX5_readCell 97 = .ok (.aload_n 0, 1) := by decide +kernel
theorem dX5_readCell_98 : decode cX5_readCell 98 = .ok (.getfield 28, 3) := by decide +kernel
theorem dX5_readCell_101 : decode cX5_readCell 101 = .ok (.iload_n 2, 1) := by decide +kernel
theorem dX5_readCell_102 : decode cX5_readCell 102 = .ok (.iaload, 1) := by decide +kernel
theorem dX5_readCell_103 : decode cX5_readCell 103 = .ok (.bipush (-9), 2) := by decide +kernel
theorem dX5_readCell_105 : decode cX5_readCell 105 = .ok (.if_icmp .eq 7, 3) := by decide +kernel
theorem dX5_readCell_108 : decode cX5_readCell 108 = .ok (.iconst 1, 1) := by decide +kernel
theorem dX5_readCell_109 : decode cX5_readCell 109 = .ok (.goto 4, 3) := by decide +kernel
theorem dX5_readCell_112 : decode cX5_readCell 112 = .ok (.iconst 0, 1) := by decide +kernel
theorem dX5_readCell_113 : decode cX5_readCell 113 = .ok (.ireturn, 1) := by decide +kernel
theorem dX5_losesOf_0 : decode cX5_losesOf 0 = .ok (.aload_n 0, 1) := by decide +kernel
theorem dX5_losesOf_1 : decode cX5_losesOf 1 = .ok (.getfield 19, 3) := by decide +kernel
theorem dX5_losesOf_4 : decode cX5_losesOf 4 = .ok (.iload_n 1, 1) := by decide +kernel
theorem dX5_losesOf_5 : decode cX5_losesOf 5 = .ok (.iaload, 1) := by decide +kernel
theorem dX5_losesOf_6 : decode cX5_losesOf 6 = .ok (.ifCond .ne 10, 3) := by decide +kernel
theorem dX5_losesOf_9 : decode cX5_losesOf 9 = .ok (.aload_n 0, 1) := by decide +kernel
theorem dX5_losesOf_10 : decode cX5_losesOf 10 = .ok (.getfield 90, 3) := by decide +kernel
theorem dX5_losesOf_13 : decode cX5_losesOf 13 = .ok (.goto 28, 3) := by decide +kernel
theorem dX5_losesOf_16 : decode cX5_losesOf 16 = .ok (.aload_n 0, 1) := by decide +kernel
theorem dX5_losesOf_17 : decode cX5_losesOf 17 = .ok (.getfield 19, 3) := by decide +kernel
theorem dX5_losesOf_20 : decode cX5_losesOf 20 = .ok (.iload_n 1, 1) := by decide +kernel
theorem dX5_losesOf_21 : decode cX5_losesOf 21 = .ok (.iaload, 1) := by decide +kernel
theorem dX5_losesOf_22 : decode cX5_losesOf 22 = .ok (.iconst 1, 1) := by decide +kernel
theorem dX5_losesOf_23 : decode cX5_losesOf 23 = .ok (.if_icmp .ne 12, 3) := by decide +kernel
theorem dX5_losesOf_26 : decode cX5_losesOf 26 = .ok (.aload_n 0, 1) := by decide +kernel
theorem dX5_losesOf_27 : decode cX5_losesOf 27 = .ok (.getfield 90, 3) := by decide +kernel
theorem dX5_losesOf_30 : decode cX5_losesOf 30 = .ok (.iconst 1, 1) := by decide +kernel
theorem dX5_losesOf_31 : decode cX5_losesOf 31 = .ok (.iadd, 1) := by decide +kernel
theorem dX5_losesOf_32 : decode cX5_losesOf 32 = .ok (.goto 9, 3) := by decide +kernel
theorem dX5_losesOf_35 : decode cX5_losesOf 35 = .ok (.aload_n 0, 1) := by decide +kernel
theorem dX5_losesOf_36 : decode cX5_losesOf 36 = .ok (.getfield 90, 3) := by decide +kernel
theorem dX5_losesOf_39 : decode cX5_losesOf 39 = .ok (.iconst 2, 1) := by decide +kernel
theorem dX5_losesOf_40 : decode cX5_losesOf 40 = .ok (.idiv, 1) := by decide +kernel
theorem dX5_losesOf_41 : decode cX5_losesOf 41 = .ok (.ireturn, 1) := by decide +kernel
theorem dX5_wetBehind_0 : decode cX5_wetBehind 0 = .ok (.aload_n 0, 1) := by decide +kernel
theorem dX5_wetBehind_1 : decode cX5_wetBehind 1 = .ok (.getfield 22, 3) := by decide +kernel
theorem dX5_wetBehind_4 : decode cX5_wetBehind 4 = .ok (.iload_n 1, 1) := by decide +kernel
theorem dX5_wetBehind_5 : decode cX5_wetBehind 5 = .ok (.iaload, 1) := by decide +kernel
theorem dX5_wetBehind_6 : decode cX5_wetBehind 6 = .ok (.iload_n 2, 1) := by decide +kernel
theorem dX5_wetBehind_7 : decode cX5_wetBehind 7 = .ok (.aload_n 0, 1) := by decide +kernel
theorem dX5_wetBehind_8 : decode cX5_wetBehind 8 = .ok (.iload_n 1, 1) := by decide +kernel
theorem dX5_wetBehind_9 : decode cX5_wetBehind 9 = .ok (.invokevirtual 113, 3) := by decide +kernel
theorem dX5_wetBehind_12 : decode cX5_wetBehind 12 = .ok (.imul, 1) := by decide +kernel
theorem dX5_wetBehind_13 : decode cX5_wetBehind 13 = .ok (.isub, 1) := by decide +kernel
theorem dX5_wetBehind_14 : decode cX5_wetBehind 14 = .ok (.istore_n 3, 1) := by decide +kernel
theorem dX5_wetBehind_15 : decode cX5_wetBehind 15 = .ok (.iload_n 3, 1) := by decide +kernel
theorem dX5_wetBehind_16 : decode cX5_wetBehind 16 = .ok (.ifCond .le 7, 3) := by decide +kernel
theorem dX5_wetBehind_19 : decode cX5_wetBehind 19 = .ok (.iload_n 3, 1) := by decide +kernel
theorem dX5_wetBehind_20 : decode cX5_wetBehind 20 = .ok (.goto 4, 3) := by decide +kernel
theorem dX5_wetBehind_23 : decode cX5_wetBehind 23 = .ok (.iconst 0, 1) := by decide +kernel
theorem dX5_wetBehind_24 : decode cX5_wetBehind 24 = .ok (.ireturn, 1) := by decide +kernel
theorem dX5_crackedBehind_0 : decode cX5_crackedBehind 0 = .ok (.iconst 0, 1) := by decide +kernel
theorem dX5_crackedBehind_1 : decode cX5_crackedBehind 1 = .ok (.istore_n 2, 1) := by decide +kernel
theorem dX5_crackedBehind_2 : decode cX5_crackedBehind 2 = .ok (.iconst 0, 1) := by decide +kernel
theorem dX5_crackedBehind_3 : decode cX5_crackedBehind 3 = .ok (.istore_n 3, 1) := by decide +kernel
theorem dX5_crackedBehind_4 : decode cX5_crackedBehind 4 = .ok (.iload_n 3, 1) := by decide +kernel
theorem dX5_crackedBehind_5 : decode cX5_crackedBehind 5 = .ok (.aload_n 0, 1) := by decide +kernel
theorem dX5_crackedBehind_6 : decode cX5_crackedBehind 6 = .ok (.invokevirtual 59, 3) := by decide +kernel
theorem dX5_crackedBehind_9 : decode cX5_crackedBehind 9 = .ok (.if_icmp .ge 28, 3) := by decide +kernel
theorem dX5_crackedBehind_12 : decode cX5_crackedBehind 12 = .ok (.iload_n 2, 1) := by decide +kernel
theorem dX5_crackedBehind_13 : decode cX5_crackedBehind 13 = .ok (.aload_n 0, 1) := by decide +kernel
theorem dX5_crackedBehind_14 : decode cX5_crackedBehind 14 = .ok (.iload_n 3, 1) := by decide +kernel
theorem dX5_crackedBehind_15 : decode cX5_crackedBehind 15 = .ok (.iload_n 1, 1) := by decide +kernel
theorem dX5_crackedBehind_16 : decode cX5_crackedBehind 16 = .ok (.invokevirtual 116, 3) := by decide +kernel
theorem dX5_crackedBehind_19 : decode cX5_crackedBehind 19 = .ok (.ifCond .ne 9, 3) := by decide +kernel
theorem dX5_crackedBehind_22 : decode cX5_crackedBehind 22 = .ok (.iconst 1, 1) := by decide +kernel
theorem dX5_crackedBehind_23 : decode cX5_crackedBehind 23 = .ok (.iload_n 3, 1) := by decide +kernel
theorem dX5_crackedBehind_24 : decode cX5_crackedBehind 24 = .ok (.ishl, 1) := by decide +kernel
theorem dX5_crackedBehind_25 : decode cX5_crackedBehind 25 = .ok (.goto 4, 3) := by decide +kernel
theorem dX5_crackedBehind_28 : decode cX5_crackedBehind 28 = .ok (.iconst 0, 1) := by decide +kernel
theorem dX5_crackedBehind_29 : decode cX5_crackedBehind 29 = .ok (.ior, 1) := by decide +kernel
theorem dX5_crackedBehind_30 : decode cX5_crackedBehind 30 = .ok (.istore_n 2, 1) := by decide +kernel
theorem dX5_crackedBehind_31 : decode cX5_crackedBehind 31 = .ok (.iinc 3 1, 3) := by decide +kernel
theorem dX5_crackedBehind_34 : decode cX5_crackedBehind 34 = .ok (.goto (-30), 3) := by decide +kernel
theorem dX5_crackedBehind_37 : decode cX5_crackedBehind 37 = .ok (.iload_n 2, 1) := by decide +kernel
theorem dX5_crackedBehind_38 : decode cX5_crackedBehind 38 = .ok (.ireturn, 1) := by decide +kernel
theorem dX5_besides_0 : decode cX5_besides 0 = .ok (.iload_n 1, 1) := by decide +kernel
theorem dX5_besides_1 : decode cX5_besides 1 = .ok (.aload_n 0, 1) := by decide +kernel
theorem dX5_besides_2 : decode cX5_besides 2 = .ok (.getfield 53, 3) := by decide +kernel
theorem dX5_besides_5 : decode cX5_besides 5 = .ok (.irem, 1) := by decide +kernel
theorem dX5_besides_6 : decode cX5_besides 6 = .ok (.ifCond .le 11, 3) := by decide +kernel
theorem dX5_besides_9 : decode cX5_besides 9 = .ok (.iconst 1, 1) := by decide +kernel
theorem dX5_besides_10 : decode cX5_besides 10 = .ok (.iload_n 1, 1) := by decide +kernel
theorem dX5_besides_11 : decode cX5_besides 11 = .ok (.iconst 1, 1) := by decide +kernel
theorem dX5_besides_12 : decode cX5_besides 12 = .ok (.isub, 1) := by decide +kernel
theorem dX5_besides_13 : decode cX5_besides 13 = .ok (.ishl, 1) := by decide +kernel
theorem dX5_besides_14 : decode cX5_besides 14 = .ok (.goto 4, 3) := by decide +kernel
theorem dX5_besides_17 : decode cX5_besides 17 = .ok (.iconst 0, 1) := by decide +kernel
theorem dX5_besides_18 : decode cX5_besides 18 = .ok (.istore_n 2, 1) := by decide +kernel
theorem dX5_besides_19 : decode cX5_besides 19 = .ok (.iload_n 2, 1) := by decide +kernel
theorem dX5_besides_20 : decode cX5_besides 20 = .ok (.iload_n 1, 1) := by decide +kernel
theorem dX5_besides_21 : decode cX5_besides 21 = .ok (.aload_n 0, 1) := by decide +kernel
theorem dX5_besides_22 : decode cX5_besides 22 = .ok (.getfield 53, 3) := by decide +kernel
theorem dX5_besides_25 : decode cX5_besides 25 = .ok (.irem, 1) := by decide +kernel
theorem dX5_besides_26 : decode cX5_besides 26 = .ok (.aload_n 0, 1) := by decide +kernel
theorem dX5_besides_27 : decode cX5_besides 27 = .ok (.getfield 53, 3) := by decide +kernel
theorem dX5_besides_30 : decode cX5_besides 30 = .ok (.iconst 1, 1) := by decide +kernel
theorem dX5_besides_31 : decode cX5_besides 31 = .ok (.isub, 1) := by decide +kernel
theorem dX5_besides_32 : decode cX5_besides 32 = .ok (.if_icmp .ge 11, 3) := by decide +kernel
theorem dX5_besides_35 : decode cX5_besides 35 = .ok (.iconst 1, 1) := by decide +kernel
theorem dX5_besides_36 : decode cX5_besides 36 = .ok (.iload_n 1, 1) := by decide +kernel
theorem dX5_besides_37 : decode cX5_besides 37 = .ok (.iconst 1, 1) := by decide +kernel
theorem dX5_besides_38 : decode cX5_besides 38 = .ok (.iadd, 1) := by decide +kernel
theorem dX5_besides_39 : decode cX5_besides 39 = .ok (.ishl, 1) := by decide +kernel
theorem dX5_besides_40 : decode cX5_besides 40 = .ok (.goto 4, 3) := by decide +kernel
theorem dX5_besides_43 : decode cX5_besides 43 = .ok (.iconst 0, 1) := by decide +kernel
theorem dX5_besides_44 : decode cX5_besides 44 = .ok (.ior, 1) := by decide +kernel
theorem dX5_besides_45 : decode cX5_besides 45 = .ok (.istore_n 2, 1) := by decide +kernel
theorem dX5_besides_46 : decode cX5_besides 46 = .ok (.iload_n 2, 1) := by decide +kernel
theorem dX5_besides_47 : decode cX5_besides 47 = .ok (.iload_n 1, 1) := by decide +kernel
theorem dX5_besides_48 : decode cX5_besides 48 = .ok (.aload_n 0, 1) := by decide +kernel
theorem dX5_besides_49 : decode cX5_besides 49 = .ok (.getfield 53, 3) := by decide +kernel
theorem dX5_besides_52 : decode cX5_besides 52 = .ok (.if_icmp .lt 14, 3) := by decide +kernel
theorem dX5_besides_55 : decode cX5_besides 55 = .ok (.iconst 1, 1) := by decide +kernel
theorem dX5_besides_56 : decode cX5_besides 56 = .ok (.iload_n 1, 1) := by decide +kernel
theorem dX5_besides_57 : decode cX5_besides 57 = .ok (.aload_n 0, 1) := by decide +kernel
theorem dX5_besides_58 : decode cX5_besides 58 = .ok (.getfield 53, 3) := by decide +kernel
theorem dX5_besides_61 : decode cX5_besides 61 = .ok (.isub, 1) := by decide +kernel
theorem dX5_besides_62 : decode cX5_besides 62 = .ok (.ishl, 1) := by decide +kernel
theorem dX5_besides_63 : decode cX5_besides 63 = .ok (.goto 4, 3) := by decide +kernel
theorem dX5_besides_66 : decode cX5_besides 66 = .ok (.iconst 0, 1) := by decide +kernel
theorem dX5_besides_67 : decode cX5_besides 67 = .ok (.ior, 1) := by decide +kernel
theorem dX5_besides_68 : decode cX5_besides 68 = .ok (.istore_n 2, 1) := by decide +kernel
theorem dX5_besides_69 : decode cX5_besides 69 = .ok (.iload_n 2, 1) := by decide +kernel
theorem dX5_besides_70 : decode cX5_besides 70 = .ok (.iload_n 1, 1) := by decide +kernel
theorem dX5_besides_71 : decode cX5_besides 71 = .ok (.aload_n 0, 1) := by decide +kernel
theorem dX5_besides_72 : decode cX5_besides 72 = .ok (.getfield 53, 3) := by decide +kernel
theorem dX5_besides_75 : decode cX5_besides 75 = .ok (.iadd, 1) := by decide +kernel
theorem dX5_besides_76 : decode cX5_besides 76 = .ok (.aload_n 0, 1) := by decide +kernel
theorem dX5_besides_77 : decode cX5_besides 77 = .ok (.invokevirtual 59, 3) := by decide +kernel
theorem dX5_besides_80 : decode cX5_besides 80 = .ok (.if_icmp .ge 14, 3) := by decide +kernel
theorem dX5_besides_83 : decode cX5_besides 83 = .ok (.iconst 1, 1) := by decide +kernel
theorem dX5_besides_84 : decode cX5_besides 84 = .ok (.iload_n 1, 1) := by decide +kernel
theorem dX5_besides_85 : decode cX5_besides 85 = .ok (.aload_n 0, 1) := by decide +kernel
theorem dX5_besides_86 : decode cX5_besides 86 = .ok (.getfield 53, 3) := by decide +kernel
theorem dX5_besides_89 : decode cX5_besides 89 = .ok (.iadd, 1) := by decide +kernel
theorem dX5_besides_90 : decode cX5_besides 90 = .ok (.ishl, 1) := by decide +kernel
theorem dX5_besides_91 : decode cX5_besides 91 = .ok (.goto 4, 3) := by decide +kernel
theorem dX5_besides_94 : decode cX5_besides 94 = .ok (.iconst 0, 1) := by decide +kernel
theorem dX5_besides_95 : decode cX5_besides 95 = .ok (.ior, 1) := by decide +kernel
theorem dX5_besides_96 : decode cX5_besides 96 = .ok (.ireturn, 1) := by decide +kernel
theorem dX5_spreadIn_0 : decode cX5_spreadIn 0 = .ok (.iload_n 1, 1) := by decide +kernel
theorem dX5_spreadIn_1 : decode cX5_spreadIn 1 = .ok (.iload_n 2, 1) := by decide +kernel
theorem dX5_spreadIn_2 : decode cX5_spreadIn 2 = .ok (.iand, 1) := by decide +kernel
theorem dX5_spreadIn_3 : decode cX5_spreadIn 3 = .ok (.istore_n 3, 1) := by decide +kernel
theorem dX5_spreadIn_4 : decode cX5_spreadIn 4 = .ok (.iconst 0, 1) := by decide +kernel
theorem dX5_spreadIn_5 : decode cX5_spreadIn 5 = .ok (.istore 4, 2) := by decide +kernel
theorem dX5_spreadIn_7 : decode cX5_spreadIn 7 = .ok (.iload_n 3, 1) := by decide +kernel
theorem dX5_spreadIn_8 : decode cX5_spreadIn 8 = .ok (.iload 4, 2) := by decide +kernel
theorem dX5_spreadIn_10 : decode cX5_spreadIn 10 = .ok (.if_icmp .eq 58, 3) := by decide +kernel
theorem dX5_spreadIn_13 : decode cX5_spreadIn 13 = .ok (.iload_n 3, 1) := by decide +kernel
theorem dX5_spreadIn_14 : decode cX5_spreadIn 14 = .ok (.istore 4, 2) := by decide +kernel
theorem dX5_spreadIn_16 : decode cX5_spreadIn 16 = .ok (.iconst 0, 1) := by decide +kernel
theorem dX5_spreadIn_17 : decode cX5_spreadIn 17 = .ok (.istore 5, 2) := by decide +kernel
theorem dX5_spreadIn_19 : decode cX5_spreadIn 19 = .ok (.iload 5, 2) := by decide +kernel
theorem dX5_spreadIn_21 : decode cX5_spreadIn 21 = .ok (.aload_n 0, 1) := by decide +kernel
theorem dX5_spreadIn_22 : decode cX5_spreadIn 22 = .ok (.invokevirtual 59, 3) := by decide +kernel
theorem dX5_spreadIn_25 : decode cX5_spreadIn 25 = .ok (.if_icmp .ge 40, 3) := by decide +kernel
theorem dX5_spreadIn_28 : decode cX5_spreadIn 28 = .ok (.iload_n 3, 1) := by decide +kernel
theorem dX5_spreadIn_29 : decode cX5_spreadIn 29 = .ok (.iload_n 1, 1) := by decide +kernel
theorem dX5_spreadIn_30 : decode cX5_spreadIn 30 = .ok (.iload 5, 2) := by decide +kernel
theorem dX5_spreadIn_32 : decode cX5_spreadIn 32 = .ok (.invokestatic 120, 3) := by decide +kernel
theorem dX5_spreadIn_35 : decode cX5_spreadIn 35 = .ok (.ifCond .eq 21, 3) := by decide +kernel
theorem dX5_spreadIn_38 : decode cX5_spreadIn 38 = .ok (.aload_n 0, 1) := by decide +kernel
theorem dX5_spreadIn_39 : decode cX5_spreadIn 39 = .ok (.iload 5, 2) := by decide +kernel
theorem dX5_spreadIn_41 : decode cX5_spreadIn 41 = .ok (.invokevirtual 123, 3) := by decide +kernel
theorem dX5_spreadIn_44 : decode cX5_spreadIn 44 = .ok (.iload_n 3, 1) := by decide +kernel
theorem dX5_spreadIn_45 : decode cX5_spreadIn 45 = .ok (.iand, 1) := by decide +kernel
theorem dX5_spreadIn_46 : decode cX5_spreadIn 46 = .ok (.ifCond .eq 10, 3) := by decide +kernel
theorem dX5_spreadIn_49 : decode cX5_spreadIn 49 = .ok (.iconst 1, 1) := by decide +kernel
theorem dX5_spreadIn_50 : decode cX5_spreadIn 50 = .ok (.iload 5, 2) := by decide +kernel
theorem dX5_spreadIn_52 : decode cX5_spreadIn 52 = .ok (.ishl, 1) := by decide +kernel
theorem dX5_spreadIn_53 : decode cX5_spreadIn 53 = .ok (.goto 4, 3) := by decide +kernel
theorem dX5_spreadIn_56 : decode cX5_spreadIn 56 = .ok (.iconst 0, 1) := by decide +kernel
theorem dX5_spreadIn_57 : decode cX5_spreadIn 57 = .ok (.ior, 1) := by decide +kernel
theorem dX5_spreadIn_58 : decode cX5_spreadIn 58 = .ok (.istore_n 3, 1) := by decide +kernel
theorem dX5_spreadIn_59 : decode cX5_spreadIn 59 = .ok (.iinc 5 1, 3) := by decide +kernel
theorem dX5_spreadIn_62 : decode cX5_spreadIn 62 = .ok (.goto (-43), 3) := by decide +kernel
theorem dX5_spreadIn_65 : decode cX5_spreadIn 65 = .ok (.goto (-58), 3) := by decide +kernel
theorem dX5_spreadIn_68 : decode cX5_spreadIn 68 = .ok (.iload_n 3, 1) := by decide +kernel
theorem dX5_spreadIn_69 : decode cX5_spreadIn 69 = .ok (.ireturn, 1) := by decide +kernel
theorem dX5_isOpen_0 : decode cX5_isOpen 0 = .ok (.iconst 1, 1) := by decide +kernel
theorem dX5_isOpen_1 : decode cX5_isOpen 1 = .ok (.aload_n 0, 1) := by decide +kernel
theorem dX5_isOpen_2 : decode cX5_isOpen 2 = .ok (.getfield 53, 3) := by decide +kernel
theorem dX5_isOpen_5 : decode cX5_isOpen 5 = .ok (.ishl, 1) := by decide +kernel
theorem dX5_isOpen_6 : decode cX5_isOpen 6 = .ok (.iconst 1, 1) := by decide +kernel
theorem dX5_isOpen_7 : decode cX5_isOpen 7 = .ok (.isub, 1) := by decide +kernel
theorem dX5_isOpen_8 : decode cX5_isOpen 8 = .ok (.istore_n 2, 1) := by decide +kernel
theorem dX5_isOpen_9 : decode cX5_isOpen 9 = .ok (.iload_n 2, 1) := by decide +kernel
theorem dX5_isOpen_10 : decode cX5_isOpen 10 = .ok (.aload_n 0, 1) := by decide +kernel
theorem dX5_isOpen_11 : decode cX5_isOpen 11 = .ok (.getfield 53, 3) := by decide +kernel
theorem dX5_isOpen_14 : decode cX5_isOpen 14 = .ok (.aload_n 0, 1) := by decide +kernel
theorem dX5_isOpen_15 : decode cX5_isOpen 15 = .ok (.getfield 56, 3) := by decide +kernel
theorem dX5_isOpen_18 : decode cX5_isOpen 18 = .ok (.iconst 1, 1) := by decide +kernel
theorem dX5_isOpen_19 : decode cX5_isOpen 19 = .ok (.isub, 1) := by decide +kernel
theorem dX5_isOpen_20 : decode cX5_isOpen 20 = .ok (.imul, 1) := by decide +kernel
theorem dX5_isOpen_21 : decode cX5_isOpen 21 = .ok (.ishl, 1) := by decide +kernel
theorem dX5_isOpen_22 : decode cX5_isOpen 22 = .ok (.istore_n 3, 1) := by decide +kernel
theorem dX5_isOpen_23 : decode cX5_isOpen 23 = .ok (.aload_n 0, 1) := by decide +kernel
theorem dX5_isOpen_24 : decode cX5_isOpen 24 = .ok (.iload_n 1, 1) := by decide +kernel
theorem dX5_isOpen_25 : decode cX5_isOpen 25 = .ok (.iload_n 2, 1) := by decide +kernel
theorem dX5_isOpen_26 : decode cX5_isOpen 26 = .ok (.invokevirtual 126, 3) := by decide +kernel
theorem dX5_isOpen_29 : decode cX5_isOpen 29 = .ok (.iload_n 3, 1) := by decide +kernel
theorem dX5_isOpen_30 : decode cX5_isOpen 30 = .ok (.iand, 1) := by decide +kernel
theorem dX5_isOpen_31 : decode cX5_isOpen 31 = .ok (.ifCond .eq 7, 3) := by decide +kernel
theorem dX5_isOpen_34 : decode cX5_isOpen 34 = .ok (.iconst 1, 1) := by decide +kernel
theorem dX5_isOpen_35 : decode cX5_isOpen 35 = .ok (.goto 4, 3) := by decide +kernel
theorem dX5_isOpen_38 : decode cX5_isOpen 38 = .ok (.iconst 0, 1) := by decide +kernel
theorem dX5_isOpen_39 : decode cX5_isOpen 39 = .ok (.ireturn, 1) := by decide +kernel
theorem dX5_pieceOf_0 : decode cX5_pieceOf 0 = .ok (.aload_n 0, 1) := by decide +kernel
theorem dX5_pieceOf_1 : decode cX5_pieceOf 1 = .ok (.iconst 0, 1) := by decide +kernel
theorem dX5_pieceOf_2 : decode cX5_pieceOf 2 = .ok (.invokevirtual 129, 3) := by decide +kernel
theorem dX5_pieceOf_5 : decode cX5_pieceOf 5 = .ok (.istore_n 2, 1) := by decide +kernel
theorem dX5_pieceOf_6 : decode cX5_pieceOf 6 = .ok (.iconst 1, 1) := by decide +kernel
theorem dX5_pieceOf_7 : decode cX5_pieceOf 7 = .ok (.aload_n 0, 1) := by decide +kernel
theorem dX5_pieceOf_8 : decode cX5_pieceOf 8 = .ok (.invokevirtual 59, 3) := by decide +kernel
theorem dX5_pieceOf_11 : decode cX5_pieceOf 11 = .ok (.ishl, 1) := by decide +kernel
theorem dX5_pieceOf_12 : decode cX5_pieceOf 12 = .ok (.iconst 1, 1) := by decide +kernel
theorem dX5_pieceOf_13 : decode cX5_pieceOf 13 = .ok (.isub, 1) := by decide +kernel
theorem dX5_pieceOf_14 : decode cX5_pieceOf 14 = .ok (.iload_n 2, 1) := by decide +kernel
theorem dX5_pieceOf_15 : decode cX5_pieceOf 15 = .ok (.iconst (-1), 1) := by decide +kernel
theorem dX5_pieceOf_16 : decode cX5_pieceOf 16 = .ok (.ixor, 1) := by decide +kernel
theorem dX5_pieceOf_17 : decode cX5_pieceOf 17 = .ok (.iand, 1) := by decide +kernel
theorem dX5_pieceOf_18 : decode cX5_pieceOf 18 = .ok (.istore_n 3, 1) := by decide +kernel
theorem dX5_pieceOf_19 : decode cX5_pieceOf 19 = .ok (.aload_n 0, 1) := by decide +kernel
theorem dX5_pieceOf_20 : decode cX5_pieceOf 20 = .ok (.iload_n 3, 1) := by decide +kernel
theorem dX5_pieceOf_21 : decode cX5_pieceOf 21 = .ok (.iconst 1, 1) := by decide +kernel
theorem dX5_pieceOf_22 : decode cX5_pieceOf 22 = .ok (.iload_n 1, 1) := by decide +kernel
theorem dX5_pieceOf_23 : decode cX5_pieceOf 23 = .ok (.ishl, 1) := by decide +kernel
theorem dX5_pieceOf_24 : decode cX5_pieceOf 24 = .ok (.invokevirtual 126, 3) := by decide +kernel
theorem dX5_pieceOf_27 : decode cX5_pieceOf 27 = .ok (.ireturn, 1) := by decide +kernel
theorem dX5_ofCell_0 : decode cX5_ofCell 0 = .ok (.aload_n 0, 1) := by decide +kernel
theorem dX5_ofCell_1 : decode cX5_ofCell 1 = .ok (.iload_n 1, 1) := by decide +kernel
theorem dX5_ofCell_2 : decode cX5_ofCell 2 = .ok (.invokevirtual 132, 3) := by decide +kernel
theorem dX5_ofCell_5 : decode cX5_ofCell 5 = .ok (.ifCond .ne 5, 3) := by decide +kernel
theorem dX5_ofCell_8 : decode cX5_ofCell 8 = .ok (.iconst (-1), 1) := by decide +kernel
theorem dX5_ofCell_9 : decode cX5_ofCell 9 = .ok (.ireturn, 1) := by decide +kernel
theorem dX5_ofCell_10 : decode cX5_ofCell 10 = .ok (.iload_n 2, 1) := by decide +kernel
theorem dX5_ofCell_11 : decode cX5_ofCell 11 = .ok (.tableswitch 77 0 4 #[33, 40, 47, 53, 68], 33) := by decide +kernel
theorem dX5_ofCell_44 : decode cX5_ofCell 44 = .ok (.aload_n 0, 1) := by decide +kernel
theorem dX5_ofCell_45 : decode cX5_ofCell 45 = .ok (.getfield 19, 3) := by decide +kernel
theorem dX5_ofCell_48 : decode cX5_ofCell 48 = .ok (.iload_n 1, 1) := by decide +kernel
theorem dX5_ofCell_49 : decode cX5_ofCell 49 = .ok (.iaload, 1) := by decide +kernel
theorem dX5_ofCell_50 : decode cX5_ofCell 50 = .ok (.ireturn, 1) := by decide +kernel
theorem dX5_ofCell_51 : decode cX5_ofCell 51 = .ok (.aload_n 0, 1) := by decide +kernel
theorem dX5_ofCell_52 : decode cX5_ofCell 52 = .ok (.getfield 22, 3) := by decide +kernel
theorem dX5_ofCell_55 : decode cX5_ofCell 55 = .ok (.iload_n 1, 1) := by decide +kernel
theorem dX5_ofCell_56 : decode cX5_ofCell 56 = .ok (.iaload, 1) := by decide +kernel
theorem dX5_ofCell_57 : decode cX5_ofCell 57 = .ok (.ireturn, 1) := by decide +kernel
theorem dX5_ofCell_58 : decode cX5_ofCell 58 = .ok (.aload_n 0, 1) := by decide +kernel
theorem dX5_ofCell_59 : decode cX5_ofCell 59 = .ok (.iload_n 1, 1) := by decide +kernel
theorem dX5_ofCell_60 : decode cX5_ofCell 60 = .ok (.invokevirtual 113, 3) := by decide +kernel
theorem dX5_ofCell_63 : decode cX5_ofCell 63 = .ok (.ireturn, 1) := by decide +kernel
theorem dX5_ofCell_64 : decode cX5_ofCell 64 = .ok (.aload_n 0, 1) := by decide +kernel
theorem dX5_ofCell_65 : decode cX5_ofCell 65 = .ok (.getfield 22, 3) := by decide +kernel
theorem dX5_ofCell_68 : decode cX5_ofCell 68 = .ok (.iload_n 1, 1) := by decide +kernel
theorem dX5_ofCell_69 : decode cX5_ofCell 69 = .ok (.iaload, 1) := by decide +kernel
theorem dX5_ofCell_70 : decode cX5_ofCell 70 = .ok (.ifCond .ne 7, 3) := by decide +kernel
theorem dX5_ofCell_73 : decode cX5_ofCell 73 = .ok (.iconst 1, 1) := by decide +kernel
theorem dX5_ofCell_74 : decode cX5_ofCell 74 = .ok (.goto 4, 3) := by decide +kernel
theorem dX5_ofCell_77 : decode cX5_ofCell 77 = .ok (.iconst 0, 1) := by decide +kernel
theorem dX5_ofCell_78 : decode cX5_ofCell 78 = .ok (.ireturn, 1) := by decide +kernel
theorem dX5_ofCell_79 : decode cX5_ofCell 79 = .ok (.aload_n 0, 1) := by decide +kernel
theorem dX5_ofCell_80 : decode cX5_ofCell 80 = .ok (.iload_n 1, 1) := by decide +kernel
theorem dX5_ofCell_81 : decode cX5_ofCell 81 = .ok (.invokevirtual 135, 3) := by decide +kernel
theorem dX5_ofCell_84 : decode cX5_ofCell 84 = .ok (.invokestatic 138, 3) := by decide +kernel
theorem dX5_ofCell_87 : decode cX5_ofCell 87 = .ok (.ireturn, 1) := by decide +kernel
theorem dX5_ofCell_88 : decode cX5_ofCell 88 = .ok (.bipush (-2), 2) := by decide +kernel
theorem dX5_ofCell_90 : decode cX5_ofCell 90 = .ok (.ireturn, 1) := by decide +kernel
theorem dX5_shine_0 : decode cX5_shine 0 = .ok (.iload_n 1, 1) := by decide +kernel
theorem dX5_shine_1 : decode cX5_shine 1 = .ok (.invokestatic 141, 3) := by decide +kernel
theorem dX5_shine_4 : decode cX5_shine 4 = .ok (.ifCond .ne 6, 3) := by decide +kernel
theorem dX5_shine_7 : decode cX5_shine 7 = .ok (.bipush (-2), 2) := by decide +kernel
theorem dX5_shine_9 : decode cX5_shine 9 = .ok (.ireturn, 1) := by decide +kernel
theorem dX5_shine_10 : decode cX5_shine 10 = .ok (.aload_n 0, 1) := by decide +kernel
theorem dX5_shine_11 : decode cX5_shine 11 = .ok (.getfield 53, 3) := by decide +kernel
theorem dX5_shine_14 : decode cX5_shine 14 = .ok (.ifCond .ne 6, 3) := by decide +kernel
theorem dX5_shine_17 : decode cX5_shine 17 = .ok (.bipush (-3), 2) := by decide +kernel
theorem dX5_shine_19 : decode cX5_shine 19 = .ok (.ireturn, 1) := by decide +kernel
theorem dX5_shine_20 : decode cX5_shine 20 = .ok (.aload_n 0, 1) := by decide +kernel
theorem dX5_shine_21 : decode cX5_shine 21 = .ok (.getfield 90, 3) := by decide +kernel
theorem dX5_shine_24 : decode cX5_shine 24 = .ok (.istore_n 2, 1) := by decide +kernel
theorem dX5_shine_25 : decode cX5_shine 25 = .ok (.aload_n 0, 1) := by decide +kernel
theorem dX5_shine_26 : decode cX5_shine 26 = .ok (.iload_n 1, 1) := by decide +kernel
theorem dX5_shine_27 : decode cX5_shine 27 = .ok (.putfield 90, 3) := by decide +kernel
theorem dX5_shine_30 : decode cX5_shine 30 = .ok (.iload_n 2, 1) := by decide +kernel
theorem dX5_shine_31 : decode cX5_shine 31 = .ok (.ireturn, 1) := by decide +kernel
theorem dX5_silt_0 : decode cX5_silt 0 = .ok (.aload_n 0, 1) := by decide +kernel
theorem dX5_silt_1 : decode cX5_silt 1 = .ok (.iload_n 1, 1) := by decide +kernel
theorem dX5_silt_2 : decode cX5_silt 2 = .ok (.invokevirtual 132, 3) := by decide +kernel
theorem dX5_silt_5 : decode cX5_silt 5 = .ok (.ifCond .ne 5, 3) := by decide +kernel
theorem dX5_silt_8 : decode cX5_silt 8 = .ok (.iconst (-1), 1) := by decide +kernel
theorem dX5_silt_9 : decode cX5_silt 9 = .ok (.ireturn, 1) := by decide +kernel
theorem dX5_silt_10 : decode cX5_silt 10 = .ok (.iload_n 2, 1) := by decide +kernel
theorem dX5_silt_11 : decode cX5_silt 11 = .ok (.iconst 0, 1) := by decide +kernel
theorem dX5_silt_12 : decode cX5_silt 12 = .ok (.iconst 2, 1) := by decide +kernel
theorem dX5_silt_13 : decode cX5_silt 13 = .ok (.invokestatic 49, 3) := by decide +kernel
theorem dX5_silt_16 : decode cX5_silt 16 = .ok (.ifCond .ne 6, 3) := by decide +kernel
theorem dX5_silt_19 : decode cX5_silt 19 = .ok (.bipush (-2), 2) := by decide +kernel
theorem dX5_silt_21 : decode cX5_silt 21 = .ok (.ireturn, 1) := by decide +kernel
theorem dX5_silt_22 : decode cX5_silt 22 = .ok (.aload_n 0, 1) := by decide +kernel
theorem dX5_silt_23 : decode cX5_silt 23 = .ok (.getfield 19, 3) := by decide +kernel
theorem dX5_silt_26 : decode cX5_silt 26 = .ok (.iload_n 1, 1) := by decide +kernel
theorem dX5_silt_27 : decode cX5_silt 27 = .ok (.iaload, 1) := by decide +kernel
theorem dX5_silt_28 : decode cX5_silt 28 = .ok (.istore_n 3, 1) := by decide +kernel
theorem dX5_silt_29 : decode cX5_silt 29 = .ok (.aload_n 0, 1) := by decide +kernel
theorem dX5_silt_30 : decode cX5_silt 30 = .ok (.getfield 19, 3) := by decide +kernel
theorem dX5_silt_33 : decode cX5_silt 33 = .ok (.iload_n 1, 1) := by decide +kernel
theorem dX5_silt_34 : decode cX5_silt 34 = .ok (.iload_n 2, 1) := by decide +kernel
theorem dX5_silt_35 : decode cX5_silt 35 = .ok (.iastore, 1) := by decide +kernel
theorem dX5_silt_36 : decode cX5_silt 36 = .ok (.iload_n 3, 1) := by decide +kernel
theorem dX5_silt_37 : decode cX5_silt 37 = .ok (.ireturn, 1) := by decide +kernel
theorem dX5_dryBy_0 : decode cX5_dryBy 0 = .ok (.iconst 0, 1) := by decide +kernel
theorem dX5_dryBy_1 : decode cX5_dryBy 1 = .ok (.istore_n 2, 1) := by decide +kernel
theorem dX5_dryBy_2 : decode cX5_dryBy 2 = .ok (.iload_n 2, 1) := by decide +kernel
theorem dX5_dryBy_3 : decode cX5_dryBy 3 = .ok (.aload_n 0, 1) := by decide +kernel
theorem dX5_dryBy_4 : decode cX5_dryBy 4 = .ok (.invokevirtual 59, 3) := by decide +kernel
theorem dX5_dryBy_7 : decode cX5_dryBy 7 = .ok (.if_icmp .ge 21, 3) := by decide +kernel
theorem dX5_dryBy_10 : decode cX5_dryBy 10 = .ok (.aload_n 0, 1) := by decide +kernel
theorem dX5_dryBy_11 : decode cX5_dryBy 11 = .ok (.getfield 22, 3) := by decide +kernel
theorem dX5_dryBy_14 : decode cX5_dryBy 14 = .ok (.iload_n 2, 1) := by decide +kernel
theorem dX5_dryBy_15 : decode cX5_dryBy 15 = .ok (.aload_n 0, 1) := by decide +kernel
theorem dX5_dryBy_16 : decode cX5_dryBy 16 = .ok (.iload_n 2, 1) := by decide +kernel
theorem dX5_dryBy_17 : decode cX5_dryBy 17 = .ok (.iload_n 1, 1) := by decide +kernel
theorem dX5_dryBy_18 : decode cX5_dryBy 18 = .ok (.invokevirtual 116, 3) := by decide +kernel
theorem dX5_dryBy_21 : decode cX5_dryBy 21 = .ok (.iastore, 1) := by decide +kernel
theorem dX5_dryBy_22 : decode cX5_dryBy 22 = .ok (.iinc 2 1, 3) := by decide +kernel
theorem dX5_dryBy_25 : decode cX5_dryBy 25 = .ok (.goto (-23), 3) := by decide +kernel
theorem dX5_dryBy_28 : decode cX5_dryBy 28 = .ok (.return_, 1) := by decide +kernel
theorem dX5_dry_0 : decode cX5_dry 0 = .ok (.iload_n 1, 1) := by decide +kernel
theorem dX5_dry_1 : decode cX5_dry 1 = .ok (.iconst 1, 1) := by decide +kernel
theorem dX5_dry_2 : decode cX5_dry 2 = .ok (.bipush 30, 2) := by decide +kernel
theorem dX5_dry_4 : decode cX5_dry 4 = .ok (.invokestatic 49, 3) := by decide +kernel
theorem dX5_dry_7 : decode cX5_dry 7 = .ok (.ifCond .ne 6, 3) := by decide +kernel
theorem dX5_dry_10 : decode cX5_dry 10 = .ok (.bipush (-2), 2) := by decide +kernel
theorem dX5_dry_12 : decode cX5_dry 12 = .ok (.ireturn, 1) := by decide +kernel
theorem dX5_dry_13 : decode cX5_dry 13 = .ok (.aload_n 0, 1) := by decide +kernel
theorem dX5_dry_14 : decode cX5_dry 14 = .ok (.getfield 53, 3) := by decide +kernel
theorem dX5_dry_17 : decode cX5_dry 17 = .ok (.ifCond .ne 6, 3) := by decide +kernel
theorem dX5_dry_20 : decode cX5_dry 20 = .ok (.bipush (-3), 2) := by decide +kernel
theorem dX5_dry_22 : decode cX5_dry 22 = .ok (.ireturn, 1) := by decide +kernel
theorem dX5_dry_23 : decode cX5_dry 23 = .ok (.aload_n 0, 1) := by decide +kernel
theorem dX5_dry_24 : decode cX5_dry 24 = .ok (.iconst 0, 1) := by decide +kernel
theorem dX5_dry_25 : decode cX5_dry 25 = .ok (.invokevirtual 129, 3) := by decide +kernel
theorem dX5_dry_28 : decode cX5_dry 28 = .ok (.invokestatic 138, 3) := by decide +kernel
theorem dX5_dry_31 : decode cX5_dry 31 = .ok (.istore_n 2, 1) := by decide +kernel
theorem dX5_dry_32 : decode cX5_dry 32 = .ok (.aload_n 0, 1) := by decide +kernel
theorem dX5_dry_33 : decode cX5_dry 33 = .ok (.iload_n 1, 1) := by decide +kernel
theorem dX5_dry_34 : decode cX5_dry 34 = .ok (.invokevirtual 144, 3) := by decide +kernel
theorem dX5_dry_37 : decode cX5_dry 37 = .ok (.aload_n 0, 1) := by decide +kernel
theorem dX5_dry_38 : decode cX5_dry 38 = .ok (.dup, 1) := by decide +kernel
theorem dX5_dry_39 : decode cX5_dry 39 = .ok (.getfield 99, 3) := by decide +kernel
theorem dX5_dry_42 : decode cX5_dry 42 = .ok (.iload_n 1, 1) := by decide +kernel
theorem dX5_dry_43 : decode cX5_dry 43 = .ok (.iadd, 1) := by decide +kernel
theorem dX5_dry_44 : decode cX5_dry 44 = .ok (.putfield 99, 3) := by decide +kernel
theorem dX5_dry_47 : decode cX5_dry 47 = .ok (.aload_n 0, 1) := by decide +kernel
theorem dX5_dry_48 : decode cX5_dry 48 = .ok (.iconst 0, 1) := by decide +kernel
theorem dX5_dry_49 : decode cX5_dry 49 = .ok (.invokevirtual 129, 3) := by decide +kernel
theorem dX5_dry_52 : decode cX5_dry 52 = .ok (.invokestatic 138, 3) := by decide +kernel
theorem dX5_dry_55 : decode cX5_dry 55 = .ok (.iload_n 2, 1) := by decide +kernel
theorem dX5_dry_56 : decode cX5_dry 56 = .ok (.isub, 1) := by decide +kernel
theorem dX5_dry_57 : decode cX5_dry 57 = .ok (.ireturn, 1) := by decide +kernel
theorem dX5_pouredOn_0 : decode cX5_pouredOn 0 = .ok (.aload_n 0, 1) := by decide +kernel
theorem dX5_pouredOn_1 : decode cX5_pouredOn 1 = .ok (.getfield 22, 3) := by decide +kernel
theorem dX5_pouredOn_4 : decode cX5_pouredOn 4 = .ok (.iload_n 1, 1) := by decide +kernel
theorem dX5_pouredOn_5 : decode cX5_pouredOn 5 = .ok (.aload_n 0, 1) := by decide +kernel
theorem dX5_pouredOn_6 : decode cX5_pouredOn 6 = .ok (.getfield 22, 3) := by decide +kernel
theorem dX5_pouredOn_9 : decode cX5_pouredOn 9 = .ok (.iload_n 1, 1) := by decide +kernel
theorem dX5_pouredOn_10 : decode cX5_pouredOn 10 = .ok (.iaload, 1) := by decide +kernel
theorem dX5_pouredOn_11 : decode cX5_pouredOn 11 = .ok (.iload_n 2, 1) := by decide +kernel
theorem dX5_pouredOn_12 : decode cX5_pouredOn 12 = .ok (.iadd, 1) := by decide +kernel
theorem dX5_pouredOn_13 : decode cX5_pouredOn 13 = .ok (.bipush 9, 2) := by decide +kernel
theorem dX5_pouredOn_15 : decode cX5_pouredOn 15 = .ok (.if_icmp .le 8, 3) := by decide +kernel
theorem dX5_pouredOn_18 : decode cX5_pouredOn 18 = .ok (.bipush 9, 2) := by decide +kernel
theorem dX5_pouredOn_20 : decode cX5_pouredOn 20 = .ok (.goto 11, 3) := by decide +kernel
theorem dX5_pouredOn_23 : decode cX5_pouredOn 23 = .ok (.aload_n 0, 1) := by decide +kernel
theorem dX5_pouredOn_24 : decode cX5_pouredOn 24 = .ok (.getfield 22, 3) := by decide +kernel
theorem dX5_pouredOn_27 : decode cX5_pouredOn 27 = .ok (.iload_n 1, 1) := by decide +kernel
theorem dX5_pouredOn_28 : decode cX5_pouredOn 28 = .ok (.iaload, 1) := by decide +kernel
theorem dX5_pouredOn_29 : decode cX5_pouredOn 29 = .ok (.iload_n 2, 1) := by decide +kernel
theorem dX5_pouredOn_30 : decode cX5_pouredOn 30 = .ok (.iadd, 1) := by decide +kernel
theorem dX5_pouredOn_31 : decode cX5_pouredOn 31 = .ok (.iastore, 1) := by decide +kernel
theorem dX5_pouredOn_32 : decode cX5_pouredOn 32 = .ok (.aload_n 0, 1) := by decide +kernel
theorem dX5_pouredOn_33 : decode cX5_pouredOn 33 = .ok (.getfield 22, 3) := by decide +kernel
theorem dX5_pouredOn_36 : decode cX5_pouredOn 36 = .ok (.iload_n 1, 1) := by decide +kernel
theorem dX5_pouredOn_37 : decode cX5_pouredOn 37 = .ok (.iaload, 1) := by decide +kernel
theorem dX5_pouredOn_38 : decode cX5_pouredOn 38 = .ok (.ireturn, 1) := by decide +kernel
theorem dX5_pour_0 : decode cX5_pour 0 = .ok (.aload_n 0, 1) := by decide +kernel
theorem dX5_pour_1 : decode cX5_pour 1 = .ok (.iload_n 1, 1) := by decide +kernel
theorem dX5_pour_2 : decode cX5_pour 2 = .ok (.invokevirtual 132, 3) := by decide +kernel
theorem dX5_pour_5 : decode cX5_pour 5 = .ok (.ifCond .ne 5, 3) := by decide +kernel
theorem dX5_pour_8 : decode cX5_pour 8 = .ok (.iconst (-1), 1) := by decide +kernel
theorem dX5_pour_9 : decode cX5_pour 9 = .ok (.ireturn, 1) := by decide +kernel
theorem dX5_pour_10 : decode cX5_pour 10 = .ok (.iload_n 2, 1) := by decide +kernel
theorem dX5_pour_11 : decode cX5_pour 11 = .ok (.iconst 1, 1) := by decide +kernel
theorem dX5_pour_12 : decode cX5_pour 12 = .ok (.bipush 9, 2) := by decide +kernel
theorem dX5_pour_14 : decode cX5_pour 14 = .ok (.invokestatic 49, 3) := by decide +kernel
theorem dX5_pour_17 : decode cX5_pour 17 = .ok (.ifCond .ne 6, 3) := by decide +kernel
theorem dX5_pour_20 : decode cX5_pour 20 = .ok (.bipush (-2), 2) := by decide +kernel
theorem dX5_pour_22 : decode cX5_pour 22 = .ok (.ireturn, 1) := by decide +kernel
theorem dX5_pour_23 : decode cX5_pour 23 = .ok (.aload_n 0, 1) := by decide +kernel
theorem dX5_pour_24 : decode cX5_pour 24 = .ok (.getfield 22, 3) := by decide +kernel
theorem dX5_pour_27 : decode cX5_pour 27 = .ok (.iload_n 1, 1) := by decide +kernel
theorem dX5_pour_28 : decode cX5_pour 28 = .ok (.iaload, 1) := by decide +kernel
theorem dX5_pour_29 : decode cX5_pour 29 = .ok (.ifCond .ne 8, 3) := by decide +kernel
theorem dX5_pour_32 : decode cX5_pour 32 = .ok (.bipush (-3), 2) := by decide +kernel
theorem dX5_pour_34 : decode cX5_pour 34 = .ok (.goto 9, 3) := by decide +kernel
theorem dX5_pour_37 : decode cX5_pour 37 = .ok (.aload_n 0, 1) := by decide +kernel
theorem dX5_pour_38 : decode cX5_pour 38 = .ok (.iload_n 1, 1) := by decide +kernel
theorem dX5_pour_39 : decode cX5_pour 39 = .ok (.iload_n 2, 1) := by decide +kernel
theorem dX5_pour_40 : decode cX5_pour 40 = .ok (.invokevirtual 148, 3) := by decide +kernel
theorem dX5_pour_43 : decode cX5_pour 43 = .ok (.ireturn, 1) := by decide +kernel
theorem dX5_cracks_0 : decode cX5_cracks 0 = .ok (.iload_n 1, 1) := by decide +kernel
theorem dX5_cracks_1 : decode cX5_cracks 1 = .ok (.iconst 0, 1) := by decide +kernel
theorem dX5_cracks_2 : decode cX5_cracks 2 = .ok (.iconst 3, 1) := by decide +kernel
theorem dX5_cracks_3 : decode cX5_cracks 3 = .ok (.invokestatic 49, 3) := by decide +kernel
theorem dX5_cracks_6 : decode cX5_cracks 6 = .ok (.ifCond .ne 6, 3) := by decide +kernel
theorem dX5_cracks_9 : decode cX5_cracks 9 = .ok (.bipush (-2), 2) := by decide +kernel
theorem dX5_cracks_11 : decode cX5_cracks 11 = .ok (.ireturn, 1) := by decide +kernel
theorem dX5_cracks_12 : decode cX5_cracks 12 = .ok (.aload_n 0, 1) := by decide +kernel
theorem dX5_cracks_13 : decode cX5_cracks 13 = .ok (.getfield 53, 3) := by decide +kernel
theorem dX5_cracks_16 : decode cX5_cracks 16 = .ok (.ifCond .ne 6, 3) := by decide +kernel
theorem dX5_cracks_19 : decode cX5_cracks 19 = .ok (.bipush (-3), 2) := by decide +kernel
theorem dX5_cracks_21 : decode cX5_cracks 21 = .ok (.ireturn, 1) := by decide +kernel
theorem dX5_cracks_22 : decode cX5_cracks 22 = .ok (.aload_n 0, 1) := by decide +kernel
theorem dX5_cracks_23 : decode cX5_cracks 23 = .ok (.iconst 0, 1) := by decide +kernel
theorem dX5_cracks_24 : decode cX5_cracks 24 = .ok (.invokevirtual 129, 3) := by decide +kernel
theorem dX5_cracks_27 : decode cX5_cracks 27 = .ok (.istore_n 2, 1) := by decide +kernel
theorem dX5_cracks_28 : decode cX5_cracks 28 = .ok (.iload_n 1, 1) := by decide +kernel
theorem dX5_cracks_29 : decode cX5_cracks 29 = .ok (.iconst 2, 1) := by decide +kernel
theorem dX5_cracks_30 : decode cX5_cracks 30 = .ok (.if_icmp .ge 25, 3) := by decide +kernel
theorem dX5_cracks_33 : decode cX5_cracks 33 = .ok (.iload_n 1, 1) := by decide +kernel
theorem dX5_cracks_34 : decode cX5_cracks 34 = .ok (.ifCond .ne 7, 3) := by decide +kernel
theorem dX5_cracks_37 : decode cX5_cracks 37 = .ok (.iload_n 2, 1) := by decide +kernel
theorem dX5_cracks_38 : decode cX5_cracks 38 = .ok (.goto 16, 3) := by decide +kernel
theorem dX5_cracks_41 : decode cX5_cracks 41 = .ok (.aload_n 0, 1) := by decide +kernel
theorem dX5_cracks_42 : decode cX5_cracks 42 = .ok (.iload_n 2, 1) := by decide +kernel
theorem dX5_cracks_43 : decode cX5_cracks 43 = .ok (.invokevirtual 151, 3) := by decide +kernel
theorem dX5_cracks_46 : decode cX5_cracks 46 = .ok (.ifCond .eq 7, 3) := by decide +kernel
theorem dX5_cracks_49 : decode cX5_cracks 49 = .ok (.iconst 1, 1) := by decide +kernel
theorem dX5_cracks_50 : decode cX5_cracks 50 = .ok (.goto 4, 3) := by decide +kernel
theorem dX5_cracks_53 : decode cX5_cracks 53 = .ok (.iconst 0, 1) := by decide +kernel
theorem dX5_cracks_54 : decode cX5_cracks 54 = .ok (.ireturn, 1) := by decide +kernel
theorem dX5_cracks_55 : decode cX5_cracks 55 = .ok (.iconst 0, 1) := by decide +kernel
theorem dX5_cracks_56 : decode cX5_cracks 56 = .ok (.istore_n 3, 1) := by decide +kernel
theorem dX5_cracks_57 : decode cX5_cracks 57 = .ok (.iconst 0, 1) := by decide +kernel
theorem dX5_cracks_58 : decode cX5_cracks 58 = .ok (.istore 4, 2) := by decide +kernel
theorem dX5_cracks_60 : decode cX5_cracks 60 = .ok (.iconst 0, 1) := by decide +kernel
theorem dX5_cracks_61 : decode cX5_cracks 61 = .ok (.istore 5, 2) := by decide +kernel
theorem dX5_cracks_63 : decode cX5_cracks 63 = .ok (.iload 5, 2) := by decide +kernel
theorem dX5_cracks_65 : decode cX5_cracks 65 = .ok (.aload_n 0, 1) := by decide +kernel
theorem dX5_cracks_66 : decode cX5_cracks 66 = .ok (.invokevirtual 59, 3) := by decide +kernel
theorem dX5_cracks_69 : decode cX5_cracks 69 = .ok (.if_icmp .ge 86, 3) := by decide +kernel
theorem dX5_cracks_72 : decode cX5_cracks 72 = .ok (.aload_n 0, 1) := by decide +kernel
theorem dX5_cracks_73 : decode cX5_cracks 73 = .ok (.iload 5, 2) := by decide +kernel
theorem dX5_cracks_75 : decode cX5_cracks 75 = .ok (.invokevirtual 135, 3) := by decide +kernel
theorem dX5_cracks_78 : decode cX5_cracks 78 = .ok (.istore 6, 2) := by decide +kernel
theorem dX5_cracks_80 : decode cX5_cracks 80 = .ok (.iload 6, 2) := by decide +kernel
theorem dX5_cracks_82 : decode cX5_cracks 82 = .ok (.iload 5, 2) := by decide +kernel
theorem dX5_cracks_84 : decode cX5_cracks 84 = .ok (.invokestatic 120, 3) := by decide +kernel
theorem dX5_cracks_87 : decode cX5_cracks 87 = .ok (.ifCond .eq 19, 3) := by decide +kernel
theorem dX5_cracks_90 : decode cX5_cracks 90 = .ok (.iload 6, 2) := by decide +kernel
theorem dX5_cracks_92 : decode cX5_cracks 92 = .ok (.iconst 1, 1) := by decide +kernel
theorem dX5_cracks_93 : decode cX5_cracks 93 = .ok (.iload 5, 2) := by decide +kernel
theorem dX5_cracks_95 : decode cX5_cracks 95 = .ok (.ishl, 1) := by decide +kernel
theorem dX5_cracks_96 : decode cX5_cracks 96 = .ok (.iconst 1, 1) := by decide +kernel
theorem dX5_cracks_97 : decode cX5_cracks 97 = .ok (.isub, 1) := by decide +kernel
theorem dX5_cracks_98 : decode cX5_cracks 98 = .ok (.iand, 1) := by decide +kernel
theorem dX5_cracks_99 : decode cX5_cracks 99 = .ok (.ifCond .ne 7, 3) := by decide +kernel
theorem dX5_cracks_102 : decode cX5_cracks 102 = .ok (.iconst 1, 1) := by decide +kernel
theorem dX5_cracks_103 : decode cX5_cracks 103 = .ok (.goto 4, 3) := by decide +kernel
theorem dX5_cracks_106 : decode cX5_cracks 106 = .ok (.iconst 0, 1) := by decide +kernel
theorem dX5_cracks_107 : decode cX5_cracks 107 = .ok (.istore 7, 2) := by decide +kernel
theorem dX5_cracks_109 : decode cX5_cracks 109 = .ok (.iload_n 3, 1) := by decide +kernel
theorem dX5_cracks_110 : decode cX5_cracks 110 = .ok (.iload 7, 2) := by decide +kernel
theorem dX5_cracks_112 : decode cX5_cracks 112 = .ok (.ifCond .eq 7, 3) := by decide +kernel
theorem dX5_cracks_115 : decode cX5_cracks 115 = .ok (.iconst 1, 1) := by decide +kernel
theorem dX5_cracks_116 : decode cX5_cracks 116 = .ok (.goto 4, 3) := by decide +kernel
theorem dX5_cracks_119 : decode cX5_cracks 119 = .ok (.iconst 0, 1) := by decide +kernel
theorem dX5_cracks_120 : decode cX5_cracks 120 = .ok (.iadd, 1) := by decide +kernel
theorem dX5_cracks_121 : decode cX5_cracks 121 = .ok (.istore_n 3, 1) := by decide +kernel
theorem dX5_cracks_122 : decode cX5_cracks 122 = .ok (.iload 7, 2) := by decide +kernel
theorem dX5_cracks_124 : decode cX5_cracks 124 = .ok (.ifCond .eq 21, 3) := by decide +kernel
theorem dX5_cracks_127 : decode cX5_cracks 127 = .ok (.iload 6, 2) := by decide +kernel
theorem dX5_cracks_129 : decode cX5_cracks 129 = .ok (.invokestatic 138, 3) := by decide +kernel
theorem dX5_cracks_132 : decode cX5_cracks 132 = .ok (.iload 4, 2) := by decide +kernel
theorem dX5_cracks_134 : decode cX5_cracks 134 = .ok (.if_icmp .le 11, 3) := by decide +kernel
theorem dX5_cracks_137 : decode cX5_cracks 137 = .ok (.iload 6, 2) := by decide +kernel
theorem dX5_cracks_139 : decode cX5_cracks 139 = .ok (.invokestatic 138, 3) := by decide +kernel
theorem dX5_cracks_142 : decode cX5_cracks 142 = .ok (.goto 5, 3) := by decide +kernel
theorem dX5_cracks_145 : decode cX5_cracks 145 = .ok (.iload 4, 2) := by decide +kernel
theorem dX5_cracks_147 : decode cX5_cracks 147 = .ok (.istore 4, 2) := by decide +kernel
theorem dX5_cracks_149 : decode cX5_cracks 149 = .ok (.iinc 5 1, 3) := by decide +kernel
theorem dX5_cracks_152 : decode cX5_cracks 152 = .ok (.goto (-89), 3) := by decide +kernel
theorem dX5_cracks_155 : decode cX5_cracks 155 = .ok (.iload_n 1, 1) := by decide +kernel
theorem dX5_cracks_156 : decode cX5_cracks 156 = .ok (.iconst 2, 1) := by decide +kernel
theorem dX5_cracks_157 : decode cX5_cracks 157 = .ok (.if_icmp .ne 7, 3) := by decide +kernel
theorem dX5_cracks_160 : decode cX5_cracks 160 = .ok (.iload_n 3, 1) := by decide +kernel
theorem dX5_cracks_161 : decode cX5_cracks 161 = .ok (.goto 5, 3) := by decide +kernel
theorem dX5_cracks_164 : decode cX5_cracks 164 = .ok (.iload 4, 2) := by decide +kernel
theorem dX5_cracks_166 : decode cX5_cracks 166 = .ok (.ireturn, 1) := by decide +kernel
theorem dX5_way_0 : decode cX5_way 0 = .ok (.aload_n 0, 1) := by decide +kernel
theorem dX5_way_1 : decode cX5_way 1 = .ok (.iload_n 1, 1) := by decide +kernel
theorem dX5_way_2 : decode cX5_way 2 = .ok (.invokevirtual 132, 3) := by decide +kernel
theorem dX5_way_5 : decode cX5_way 5 = .ok (.ifCond .eq 11, 3) := by decide +kernel
theorem dX5_way_8 : decode cX5_way 8 = .ok (.aload_n 0, 1) := by decide +kernel
theorem dX5_way_9 : decode cX5_way 9 = .ok (.iload_n 2, 1) := by decide +kernel
theorem dX5_way_10 : decode cX5_way 10 = .ok (.invokevirtual 132, 3) := by decide +kernel
theorem dX5_way_13 : decode cX5_way 13 = .ok (.ifCond .ne 5, 3) := by decide +kernel
theorem dX5_way_16 : decode cX5_way 16 = .ok (.iconst (-1), 1) := by decide +kernel
theorem dX5_way_17 : decode cX5_way 17 = .ok (.ireturn, 1) := by decide +kernel
theorem dX5_way_18 : decode cX5_way 18 = .ok (.aload_n 0, 1) := by decide +kernel
theorem dX5_way_19 : decode cX5_way 19 = .ok (.iconst 0, 1) := by decide +kernel
theorem dX5_way_20 : decode cX5_way 20 = .ok (.invokevirtual 129, 3) := by decide +kernel
theorem dX5_way_23 : decode cX5_way 23 = .ok (.istore_n 3, 1) := by decide +kernel
theorem dX5_way_24 : decode cX5_way 24 = .ok (.iload_n 3, 1) := by decide +kernel
theorem dX5_way_25 : decode cX5_way 25 = .ok (.iconst 1, 1) := by decide +kernel
theorem dX5_way_26 : decode cX5_way 26 = .ok (.iload_n 1, 1) := by decide +kernel
theorem dX5_way_27 : decode cX5_way 27 = .ok (.ishl, 1) := by decide +kernel
theorem dX5_way_28 : decode cX5_way 28 = .ok (.iand, 1) := by decide +kernel
theorem dX5_way_29 : decode cX5_way 29 = .ok (.istore 4, 2) := by decide +kernel
theorem dX5_way_31 : decode cX5_way 31 = .ok (.iconst 0, 1) := by decide +kernel
theorem dX5_way_32 : decode cX5_way 32 = .ok (.istore 5, 2) := by decide +kernel
theorem dX5_way_34 : decode cX5_way 34 = .ok (.iload 5, 2) := by decide +kernel
theorem dX5_way_36 : decode cX5_way 36 = .ok (.aload_n 0, 1) := by decide +kernel
theorem dX5_way_37 : decode cX5_way 37 = .ok (.invokevirtual 59, 3) := by decide +kernel
theorem dX5_way_40 : decode cX5_way 40 = .ok (.if_icmp .ge 89, 3) := by decide +kernel
theorem dX5_way_43 : decode cX5_way 43 = .ok (.iload_n 3, 1) := by decide +kernel
theorem dX5_way_44 : decode cX5_way 44 = .ok (.iload_n 2, 1) := by decide +kernel
theorem dX5_way_45 : decode cX5_way 45 = .ok (.invokestatic 120, 3) := by decide +kernel
theorem dX5_way_48 : decode cX5_way 48 = .ok (.ifCond .eq 81, 3) := by decide +kernel
theorem dX5_way_51 : decode cX5_way 51 = .ok (.iload 4, 2) := by decide +kernel
theorem dX5_way_53 : decode cX5_way 53 = .ok (.iload_n 2, 1) := by decide +kernel
theorem dX5_way_54 : decode cX5_way 54 = .ok (.invokestatic 120, 3) := by decide +kernel
theorem dX5_way_57 : decode cX5_way 57 = .ok (.ifCond .eq 6, 3) := by decide +kernel
theorem dX5_way_60 : decode cX5_way 60 = .ok (.iload 5, 2) := by decide +kernel
theorem dX5_way_62 : decode cX5_way 62 = .ok (.ireturn, 1) := by decide +kernel
theorem dX5_way_63 : decode cX5_way 63 = .ok (.iload 4, 2) := by decide +kernel
theorem dX5_way_65 : decode cX5_way 65 = .ok (.istore 6, 2) := by decide +kernel
theorem dX5_way_67 : decode cX5_way 67 = .ok (.iconst 0, 1) := by decide +kernel
theorem dX5_way_68 : decode cX5_way 68 = .ok (.istore 7, 2) := by decide +kernel
theorem dX5_way_70 : decode cX5_way 70 = .ok (.iload 7, 2) := by decide +kernel
theorem dX5_way_72 : decode cX5_way 72 = .ok (.aload_n 0, 1) := by decide +kernel
theorem dX5_way_73 : decode cX5_way 73 = .ok (.invokevirtual 59, 3) := by decide +kernel
theorem dX5_way_76 : decode cX5_way 76 = .ok (.if_icmp .ge 43, 3) := by decide +kernel
theorem dX5_way_79 : decode cX5_way 79 = .ok (.iload 6, 2) := by decide +kernel
theorem dX5_way_81 : decode cX5_way 81 = .ok (.iload_n 3, 1) := by decide +kernel
theorem dX5_way_82 : decode cX5_way 82 = .ok (.iload 7, 2) := by decide +kernel
theorem dX5_way_84 : decode cX5_way 84 = .ok (.invokestatic 120, 3) := by decide +kernel
theorem dX5_way_87 : decode cX5_way 87 = .ok (.ifCond .eq 22, 3) := by decide +kernel
theorem dX5_way_90 : decode cX5_way 90 = .ok (.aload_n 0, 1) := by decide +kernel
theorem dX5_way_91 : decode cX5_way 91 = .ok (.iload 7, 2) := by decide +kernel
theorem dX5_way_93 : decode cX5_way 93 = .ok (.invokevirtual 123, 3) := by decide +kernel
theorem dX5_way_96 : decode cX5_way 96 = .ok (.iload 4, 2) := by decide +kernel
theorem dX5_way_98 : decode cX5_way 98 = .ok (.iand, 1) := by decide +kernel
theorem dX5_way_99 : decode cX5_way 99 = .ok (.ifCond .eq 10, 3) := by decide +kernel
theorem dX5_way_102 : decode cX5_way 102 = .ok (.iconst 1, 1) := by decide +kernel
theorem dX5_way_103 : decode cX5_way 103 = .ok (.iload 7, 2) := by decide +kernel
theorem dX5_way_105 : decode cX5_way 105 = .ok (.ishl, 1) := by decide +kernel
theorem dX5_way_106 : decode cX5_way 106 = .ok (.goto 4, 3) := by decide +kernel
theorem dX5_way_109 : decode cX5_way 109 = .ok (.iconst 0, 1) := by decide +kernel
theorem dX5_way_110 : decode cX5_way 110 = .ok (.ior, 1) := by decide +kernel
theorem dX5_way_111 : decode cX5_way 111 = .ok (.istore 6, 2) := by decide +kernel
theorem dX5_way_113 : decode cX5_way 113 = .ok (.iinc 7 1, 3) := by decide +kernel
theorem dX5_way_116 : decode cX5_way 116 = .ok (.goto (-46), 3) := by decide +kernel
theorem dX5_way_119 : decode cX5_way 119 = .ok (.iload 6, 2) := by decide +kernel
theorem dX5_way_121 : decode cX5_way 121 = .ok (.istore 4, 2) := by decide +kernel
theorem dX5_way_123 : decode cX5_way 123 = .ok (.iinc 5 1, 3) := by decide +kernel
theorem dX5_way_126 : decode cX5_way 126 = .ok (.goto (-92), 3) := by decide +kernel
theorem dX5_way_129 : decode cX5_way 129 = .ok (.bipush (-9), 2) := by decide +kernel
theorem dX5_way_131 : decode cX5_way 131 = .ok (.ireturn, 1) := by decide +kernel
theorem dX5_keep_0 : decode cX5_keep 0 = .ok (.aload_n 0, 1) := by decide +kernel
theorem dX5_keep_1 : decode cX5_keep 1 = .ok (.aload_n 0, 1) := by decide +kernel
theorem dX5_keep_2 : decode cX5_keep 2 = .ok (.getfield 90, 3) := by decide +kernel
theorem dX5_keep_5 : decode cX5_keep 5 = .ok (.putfield 154, 3) := by decide +kernel
theorem dX5_keep_8 : decode cX5_keep 8 = .ok (.iconst 0, 1) := by decide +kernel
theorem dX5_keep_9 : decode cX5_keep 9 = .ok (.istore_n 1, 1) := by decide +kernel
theorem dX5_keep_10 : decode cX5_keep 10 = .ok (.iload_n 1, 1) := by decide +kernel
theorem dX5_keep_11 : decode cX5_keep 11 = .ok (.aload_n 0, 1) := by decide +kernel
theorem dX5_keep_12 : decode cX5_keep 12 = .ok (.invokevirtual 59, 3) := by decide +kernel
theorem dX5_keep_15 : decode cX5_keep 15 = .ok (.if_icmp .ge 21, 3) := by decide +kernel
theorem dX5_keep_18 : decode cX5_keep 18 = .ok (.aload_n 0, 1) := by decide +kernel
theorem dX5_keep_19 : decode cX5_keep 19 = .ok (.getfield 31, 3) := by decide +kernel
theorem dX5_keep_22 : decode cX5_keep 22 = .ok (.iload_n 1, 1) := by decide +kernel
theorem dX5_keep_23 : decode cX5_keep 23 = .ok (.aload_n 0, 1) := by decide +kernel
theorem dX5_keep_24 : decode cX5_keep 24 = .ok (.getfield 22, 3) := by decide +kernel
theorem dX5_keep_27 : decode cX5_keep 27 = .ok (.iload_n 1, 1) := by decide +kernel
theorem dX5_keep_28 : decode cX5_keep 28 = .ok (.iaload, 1) := by decide +kernel
theorem dX5_keep_29 : decode cX5_keep 29 = .ok (.iastore, 1) := by decide +kernel
theorem dX5_keep_30 : decode cX5_keep 30 = .ok (.iinc 1 1, 3) := by decide +kernel
theorem dX5_keep_33 : decode cX5_keep 33 = .ok (.goto (-23), 3) := by decide +kernel
theorem dX5_keep_36 : decode cX5_keep 36 = .ok (.return_, 1) := by decide +kernel
theorem dX5_putBack_0 : decode cX5_putBack 0 = .ok (.aload_n 0, 1) := by decide +kernel
theorem dX5_putBack_1 : decode cX5_putBack 1 = .ok (.aload_n 0, 1) := by decide +kernel
theorem dX5_putBack_2 : decode cX5_putBack 2 = .ok (.getfield 154, 3) := by decide +kernel
theorem dX5_putBack_5 : decode cX5_putBack 5 = .ok (.putfield 90, 3) := by decide +kernel
theorem dX5_putBack_8 : decode cX5_putBack 8 = .ok (.iconst 0, 1) := by decide +kernel
theorem dX5_putBack_9 : decode cX5_putBack 9 = .ok (.istore_n 1, 1) := by decide +kernel
theorem dX5_putBack_10 : decode cX5_putBack 10 = .ok (.iload_n 1, 1) := by decide +kernel
theorem dX5_putBack_11 : decode cX5_putBack 11 = .ok (.aload_n 0, 1) := by decide +kernel
theorem dX5_putBack_12 : decode cX5_putBack 12 = .ok (.invokevirtual 59, 3) := by decide +kernel
theorem dX5_putBack_15 : decode cX5_putBack 15 = .ok (.if_icmp .ge 21, 3) := by decide +kernel
theorem dX5_putBack_18 : decode cX5_putBack 18 = .ok (.aload_n 0, 1) := by decide +kernel
theorem dX5_putBack_19 : decode cX5_putBack 19 = .ok (.getfield 22, 3) := by decide +kernel
theorem dX5_putBack_22 : decode cX5_putBack 22 = .ok (.iload_n 1, 1) := by decide +kernel
theorem dX5_putBack_23 : decode cX5_putBack 23 = .ok (.aload_n 0, 1) := by decide +kernel
theorem dX5_putBack_24 : decode cX5_putBack 24 = .ok (.getfield 31, 3) := by decide +kernel
theorem dX5_putBack_27 : decode cX5_putBack 27 = .ok (.iload_n 1, 1) := by decide +kernel
theorem dX5_putBack_28 : decode cX5_putBack 28 = .ok (.iaload, 1) := by decide +kernel
theorem dX5_putBack_29 : decode cX5_putBack 29 = .ok (.iastore, 1) := by decide +kernel
theorem dX5_putBack_30 : decode cX5_putBack 30 = .ok (.iinc 1 1, 3) := by decide +kernel
theorem dX5_putBack_33 : decode cX5_putBack 33 = .ok (.goto (-23), 3) := by decide +kernel
theorem dX5_putBack_36 : decode cX5_putBack 36 = .ok (.return_, 1) := by decide +kernel
theorem dX5_refusesPair_0 : decode cX5_refusesPair 0 = .ok (.iload_n 1, 1) := by decide +kernel
theorem dX5_refusesPair_1 : decode cX5_refusesPair 1 = .ok (.iconst 0, 1) := by decide +kernel
theorem dX5_refusesPair_2 : decode cX5_refusesPair 2 = .ok (.iconst 2, 1) := by decide +kernel
theorem dX5_refusesPair_3 : decode cX5_refusesPair 3 = .ok (.invokestatic 49, 3) := by decide +kernel
theorem dX5_refusesPair_6 : decode cX5_refusesPair 6 = .ok (.ifCond .eq 15, 3) := by decide +kernel
theorem dX5_refusesPair_9 : decode cX5_refusesPair 9 = .ok (.iload_n 1, 1) := by decide +kernel
theorem dX5_refusesPair_10 : decode cX5_refusesPair 10 = .ok (.iconst 1, 1) := by decide +kernel
theorem dX5_refusesPair_11 : decode cX5_refusesPair 11 = .ok (.if_icmp .eq 13, 3) := by decide +kernel
theorem dX5_refusesPair_14 : decode cX5_refusesPair 14 = .ok (.iload_n 2, 1) := by decide +kernel
theorem dX5_refusesPair_15 : decode cX5_refusesPair 15 = .ok (.invokestatic 141, 3) := by decide +kernel
theorem dX5_refusesPair_18 : decode cX5_refusesPair 18 = .ok (.ifCond .ne 6, 3) := by decide +kernel
theorem dX5_refusesPair_21 : decode cX5_refusesPair 21 = .ok (.bipush (-2), 2) := by decide +kernel
theorem dX5_refusesPair_23 : decode cX5_refusesPair 23 = .ok (.ireturn, 1) := by decide +kernel
theorem dX5_refusesPair_24 : decode cX5_refusesPair 24 = .ok (.iload_n 1, 1) := by decide +kernel
theorem dX5_refusesPair_25 : decode cX5_refusesPair 25 = .ok (.iconst 1, 1) := by decide +kernel
theorem dX5_refusesPair_26 : decode cX5_refusesPair 26 = .ok (.if_icmp .ne 15, 3) := by decide +kernel
theorem dX5_refusesPair_29 : decode cX5_refusesPair 29 = .ok (.aload_n 0, 1) := by decide +kernel
theorem dX5_refusesPair_30 : decode cX5_refusesPair 30 = .ok (.iload_n 2, 1) := by decide +kernel
theorem dX5_refusesPair_31 : decode cX5_refusesPair 31 = .ok (.invokevirtual 132, 3) := by decide +kernel
theorem dX5_refusesPair_34 : decode cX5_refusesPair 34 = .ok (.ifCond .ne 7, 3) := by decide +kernel
theorem dX5_refusesPair_37 : decode cX5_refusesPair 37 = .ok (.iconst (-1), 1) := by decide +kernel
theorem dX5_refusesPair_38 : decode cX5_refusesPair 38 = .ok (.goto 4, 3) := by decide +kernel
theorem dX5_refusesPair_41 : decode cX5_refusesPair 41 = .ok (.iconst 0, 1) := by decide +kernel
theorem dX5_refusesPair_42 : decode cX5_refusesPair 42 = .ok (.ireturn, 1) := by decide +kernel
theorem dX5_noteOpen_0 : decode cX5_noteOpen 0 = .ok (.aload_n 0, 1) := by decide +kernel
theorem dX5_noteOpen_1 : decode cX5_noteOpen 1 = .ok (.getfield 157, 3) := by decide +kernel
theorem dX5_noteOpen_4 : decode cX5_noteOpen 4 = .ok (.bipush (-9), 2) := by decide +kernel
theorem dX5_noteOpen_6 : decode cX5_noteOpen 6 = .ok (.if_icmp .ne 23, 3) := by decide +kernel
theorem dX5_noteOpen_9 : decode cX5_noteOpen 9 = .ok (.aload_n 0, 1) := by decide +kernel
theorem dX5_noteOpen_10 : decode cX5_noteOpen 10 = .ok (.aload_n 0, 1) := by decide +kernel
theorem dX5_noteOpen_11 : decode cX5_noteOpen 11 = .ok (.iconst 0, 1) := by decide +kernel
theorem dX5_noteOpen_12 : decode cX5_noteOpen 12 = .ok (.invokevirtual 129, 3) := by decide +kernel
theorem dX5_noteOpen_15 : decode cX5_noteOpen 15 = .ok (.invokevirtual 151, 3) := by decide +kernel
theorem dX5_noteOpen_18 : decode cX5_noteOpen 18 = .ok (.ifCond .eq 11, 3) := by decide +kernel
theorem dX5_noteOpen_21 : decode cX5_noteOpen 21 = .ok (.aload_n 0, 1) := by decide +kernel
theorem dX5_noteOpen_22 : decode cX5_noteOpen 22 = .ok (.aload_n 0, 1) := by decide +kernel
theorem dX5_noteOpen_23 : decode cX5_noteOpen 23 = .ok (.getfield 160, 3) := by decide +kernel
theorem dX5_noteOpen_26 : decode cX5_noteOpen 26 = .ok (.putfield 157, 3) := by decide +kernel
theorem dX5_noteOpen_29 : decode cX5_noteOpen 29 = .ok (.return_, 1) := by decide +kernel
theorem dX5_does_0 : decode cX5_does 0 = .ok (.iload_n 1, 1) := by decide +kernel
theorem dX5_does_1 : decode cX5_does 1 = .ok (.iconst 1, 1) := by decide +kernel
theorem dX5_does_2 : decode cX5_does 2 = .ok (.if_icmp .ne 21, 3) := by decide +kernel
theorem dX5_does_5 : decode cX5_does 5 = .ok (.aload_n 0, 1) := by decide +kernel
theorem dX5_does_6 : decode cX5_does 6 = .ok (.getfield 22, 3) := by decide +kernel
theorem dX5_does_9 : decode cX5_does 9 = .ok (.iload_n 2, 1) := by decide +kernel
theorem dX5_does_10 : decode cX5_does 10 = .ok (.iaload, 1) := by decide +kernel
theorem dX5_does_11 : decode cX5_does 11 = .ok (.ifCond .ne 5, 3) := by decide +kernel
theorem dX5_does_14 : decode cX5_does 14 = .ok (.iconst 0, 1) := by decide +kernel
theorem dX5_does_15 : decode cX5_does 15 = .ok (.ireturn, 1) := by decide +kernel
theorem dX5_does_16 : decode cX5_does 16 = .ok (.aload_n 0, 1) := by decide +kernel
theorem dX5_does_17 : decode cX5_does 17 = .ok (.iload_n 2, 1) := by decide +kernel
theorem dX5_does_18 : decode cX5_does 18 = .ok (.iconst 3, 1) := by decide +kernel
theorem dX5_does_19 : decode cX5_does 19 = .ok (.invokevirtual 148, 3) := by decide +kernel
theorem dX5_does_22 : decode cX5_does 22 = .ok (.pop, 1) := by decide +kernel
theorem dX5_does_23 : decode cX5_does 23 = .ok (.iload_n 1, 1) := by decide +kernel
theorem dX5_does_24 : decode cX5_does 24 = .ok (.iconst 2, 1) := by decide +kernel
theorem dX5_does_25 : decode cX5_does 25 = .ok (.if_icmp .ne 8, 3) := by decide +kernel
theorem dX5_does_28 : decode cX5_does 28 = .ok (.aload_n 0, 1) := by decide +kernel
theorem dX5_does_29 : decode cX5_does 29 = .ok (.iload_n 2, 1) := by decide +kernel
theorem dX5_does_30 : decode cX5_does 30 = .ok (.putfield 90, 3) := by decide +kernel
theorem dX5_does_33 : decode cX5_does 33 = .ok (.iconst 0, 1) := by decide +kernel
theorem dX5_does_34 : decode cX5_does 34 = .ok (.istore_n 3, 1) := by decide +kernel
theorem dX5_does_35 : decode cX5_does 35 = .ok (.iload_n 3, 1) := by decide +kernel
theorem dX5_does_36 : decode cX5_does 36 = .ok (.iload_n 2, 1) := by decide +kernel
theorem dX5_does_37 : decode cX5_does 37 = .ok (.if_icmp .ge 32, 3) := by decide +kernel
