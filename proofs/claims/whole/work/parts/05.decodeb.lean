theorem dX4_init_0 : decode cX4_init 0 = .ok (.aload_n 0, 1) := by decide +kernel
theorem dX4_init_1 : decode cX4_init 1 = .ok (.invokespecial 3, 3) := by decide +kernel
theorem dX4_init_4 : decode cX4_init 4 = .ok (.aload_n 0, 1) := by decide +kernel
theorem dX4_init_5 : decode cX4_init 5 = .ok (.new 9, 3) := by decide +kernel
theorem dX4_init_8 : decode cX4_init 8 = .ok (.dup, 1) := by decide +kernel
theorem dX4_init_9 : decode cX4_init 9 = .ok (.invokespecial 11, 3) := by decide +kernel
theorem dX4_init_12 : decode cX4_init 12 = .ok (.putfield 12, 3) := by decide +kernel
theorem dX4_init_15 : decode cX4_init 15 = .ok (.aload_n 0, 1) := by decide +kernel
theorem dX4_init_16 : decode cX4_init 16 = .ok (.new 18, 3) := by decide +kernel
theorem dX4_init_19 : decode cX4_init 19 = .ok (.dup, 1) := by decide +kernel
theorem dX4_init_20 : decode cX4_init 20 = .ok (.invokespecial 20, 3) := by decide +kernel
theorem dX4_init_23 : decode cX4_init 23 = .ok (.putfield 21, 3) := by decide +kernel
theorem dX4_init_26 : decode cX4_init 26 = .ok (.aload_n 0, 1) := by decide +kernel
theorem dX4_init_27 : decode cX4_init 27 = .ok (.new 25, 3) := by decide +kernel
theorem dX4_init_30 : decode cX4_init 30 = .ok (.dup, 1) := by decide +kernel
theorem dX4_init_31 : decode cX4_init 31 = .ok (.invokespecial 27, 3) := by decide +kernel
theorem dX4_init_34 : decode cX4_init 34 = .ok (.putfield 28, 3) := by decide +kernel
theorem dX4_init_37 : decode cX4_init 37 = .ok (.aload_n 0, 1) := by decide +kernel
theorem dX4_init_38 : decode cX4_init 38 = .ok (.iconst 4, 1) := by decide +kernel
theorem dX4_init_39 : decode cX4_init 39 = .ok (.anewarray 32, 3) := by decide +kernel
theorem dX4_init_42 : decode cX4_init 42 = .ok (.putfield 34, 3) := by decide +kernel
theorem dX4_init_45 : decode cX4_init 45 = .ok (.iconst 0, 1) := by decide +kernel
theorem dX4_init_46 : decode cX4_init 46 = .ok (.istore_n 1, 1) := by decide +kernel
theorem dX4_init_47 : decode cX4_init 47 = .ok (.iload_n 1, 1) := by decide +kernel
theorem dX4_init_48 : decode cX4_init 48 = .ok (.iconst 4, 1) := by decide +kernel
theorem dX4_init_49 : decode cX4_init 49 = .ok (.if_icmp .ge 22, 3) := by decide +kernel
theorem dX4_init_52 : decode cX4_init 52 = .ok (.aload_n 0, 1) := by decide +kernel
theorem dX4_init_53 : decode cX4_init 53 = .ok (.getfield 34, 3) := by decide +kernel
theorem dX4_init_56 : decode cX4_init 56 = .ok (.iload_n 1, 1) := by decide +kernel
theorem dX4_init_57 : decode cX4_init 57 = .ok (.new 32, 3) := by decide +kernel
theorem dX4_init_60 : decode cX4_init 60 = .ok (.dup, 1) := by decide +kernel
theorem dX4_init_61 : decode cX4_init 61 = .ok (.invokespecial 38, 3) := by decide +kernel
theorem dX4_init_64 : decode cX4_init 64 = .ok (.aastore, 1) := by decide +kernel
theorem dX4_init_65 : decode cX4_init 65 = .ok (.iinc 1 1, 3) := by decide +kernel
theorem dX4_init_68 : decode cX4_init 68 = .ok (.goto (-21), 3) := by decide +kernel
theorem dX4_init_71 : decode cX4_init 71 = .ok (.aload_n 0, 1) := by decide +kernel
theorem dX4_init_72 : decode cX4_init 72 = .ok (.iconst 0, 1) := by decide +kernel
theorem dX4_init_73 : decode cX4_init 73 = .ok (.putfield 39, 3) := by decide +kernel
theorem dX4_init_76 : decode cX4_init 76 = .ok (.aload_n 0, 1) := by decide +kernel
theorem dX4_init_77 : decode cX4_init 77 = .ok (.iconst 0, 1) := by decide +kernel
theorem dX4_init_78 : decode cX4_init 78 = .ok (.putfield 43, 3) := by decide +kernel
theorem dX4_init_81 : decode cX4_init 81 = .ok (.aload_n 0, 1) := by decide +kernel
theorem dX4_init_82 : decode cX4_init 82 = .ok (.iconst 0, 1) := by decide +kernel
theorem dX4_init_83 : decode cX4_init 83 = .ok (.putfield 46, 3) := by decide +kernel
theorem dX4_init_86 : decode cX4_init 86 = .ok (.return_, 1) := by decide +kernel
theorem dX4_bay_0 : decode cX4_bay 0 = .ok (.aload_n 0, 1) := by decide +kernel
theorem dX4_bay_1 : decode cX4_bay 1 = .ok (.iconst 0, 1) := by decide +kernel
theorem dX4_bay_2 : decode cX4_bay 2 = .ok (.putfield 46, 3) := by decide +kernel
theorem dX4_bay_5 : decode cX4_bay 5 = .ok (.iload_n 1, 1) := by decide +kernel
theorem dX4_bay_6 : decode cX4_bay 6 = .ok (.invokestatic 49, 3) := by decide +kernel
theorem dX4_bay_9 : decode cX4_bay 9 = .ok (.ifCond .ne 5, 3) := by decide +kernel
theorem dX4_bay_12 : decode cX4_bay 12 = .ok (.iconst (-1), 1) := by decide +kernel
theorem dX4_bay_13 : decode cX4_bay 13 = .ok (.ireturn, 1) := by decide +kernel
theorem dX4_bay_14 : decode cX4_bay 14 = .ok (.iload_n 2, 1) := by decide +kernel
theorem dX4_bay_15 : decode cX4_bay 15 = .ok (.invokestatic 53, 3) := by decide +kernel
theorem dX4_bay_18 : decode cX4_bay 18 = .ok (.ifCond .ne 6, 3) := by decide +kernel
theorem dX4_bay_21 : decode cX4_bay 21 = .ok (.bipush (-2), 2) := by decide +kernel
theorem dX4_bay_23 : decode cX4_bay 23 = .ok (.ireturn, 1) := by decide +kernel
theorem dX4_bay_24 : decode cX4_bay 24 = .ok (.aload_n 0, 1) := by decide +kernel
theorem dX4_bay_25 : decode cX4_bay 25 = .ok (.getfield 34, 3) := by decide +kernel
theorem dX4_bay_28 : decode cX4_bay 28 = .ok (.iload_n 1, 1) := by decide +kernel
theorem dX4_bay_29 : decode cX4_bay 29 = .ok (.aaload, 1) := by decide +kernel
theorem dX4_bay_30 : decode cX4_bay 30 = .ok (.astore 5, 2) := by decide +kernel
theorem dX4_bay_32 : decode cX4_bay 32 = .ok (.aload 5, 2) := by decide +kernel
theorem dX4_bay_34 : decode cX4_bay 34 = .ok (.iload_n 2, 1) := by decide +kernel
theorem dX4_bay_35 : decode cX4_bay 35 = .ok (.invokevirtual 56, 3) := by decide +kernel
theorem dX4_bay_38 : decode cX4_bay 38 = .ok (.istore 6, 2) := by decide +kernel
theorem dX4_bay_40 : decode cX4_bay 40 = .ok (.iload 6, 2) := by decide +kernel
theorem dX4_bay_42 : decode cX4_bay 42 = .ok (.ifCond .ne 11, 3) := by decide +kernel
theorem dX4_bay_45 : decode cX4_bay 45 = .ok (.iload 4, 2) := by decide +kernel
theorem dX4_bay_47 : decode cX4_bay 47 = .ok (.ifCond .ge 6, 3) := by decide +kernel
theorem dX4_bay_50 : decode cX4_bay 50 = .ok (.iconst 4, 1) := by decide +kernel
theorem dX4_bay_51 : decode cX4_bay 51 = .ok (.istore 6, 2) := by decide +kernel
theorem dX4_bay_53 : decode cX4_bay 53 = .ok (.iload 6, 2) := by decide +kernel
theorem dX4_bay_55 : decode cX4_bay 55 = .ok (.ifCond .ne 17, 3) := by decide +kernel
theorem dX4_bay_58 : decode cX4_bay 58 = .ok (.aload 5, 2) := by decide +kernel
theorem dX4_bay_60 : decode cX4_bay 60 = .ok (.iload_n 3, 1) := by decide +kernel
theorem dX4_bay_61 : decode cX4_bay 61 = .ok (.iload 4, 2) := by decide +kernel
theorem dX4_bay_63 : decode cX4_bay 63 = .ok (.invokevirtual 60, 3) := by decide +kernel
theorem dX4_bay_66 : decode cX4_bay 66 = .ok (.ifCond .ne 6, 3) := by decide +kernel
theorem dX4_bay_69 : decode cX4_bay 69 = .ok (.iconst 3, 1) := by decide +kernel
theorem dX4_bay_70 : decode cX4_bay 70 = .ok (.istore 6, 2) := by decide +kernel
theorem dX4_bay_72 : decode cX4_bay 72 = .ok (.iload 6, 2) := by decide +kernel
theorem dX4_bay_74 : decode cX4_bay 74 = .ok (.ifCond .eq 10, 3) := by decide +kernel
theorem dX4_bay_77 : decode cX4_bay 77 = .ok (.aload_n 0, 1) := by decide +kernel
theorem dX4_bay_78 : decode cX4_bay 78 = .ok (.iload 6, 2) := by decide +kernel
theorem dX4_bay_80 : decode cX4_bay 80 = .ok (.invokevirtual 64, 3) := by decide +kernel
theorem dX4_bay_83 : decode cX4_bay 83 = .ok (.ireturn, 1) := by decide +kernel
theorem dX4_bay_84 : decode cX4_bay 84 = .ok (.aload 5, 2) := by decide +kernel
theorem dX4_bay_86 : decode cX4_bay 86 = .ok (.iload_n 3, 1) := by decide +kernel
theorem dX4_bay_87 : decode cX4_bay 87 = .ok (.iload 4, 2) := by decide +kernel
theorem dX4_bay_89 : decode cX4_bay 89 = .ok (.invokestatic 67, 3) := by decide +kernel
theorem dX4_bay_92 : decode cX4_bay 92 = .ok (.istore 7, 2) := by decide +kernel
theorem dX4_bay_94 : decode cX4_bay 94 = .ok (.iload 7, 2) := by decide +kernel
theorem dX4_bay_96 : decode cX4_bay 96 = .ok (.bipush (-9), 2) := by decide +kernel
theorem dX4_bay_98 : decode cX4_bay 98 = .ok (.if_icmp .eq 9, 3) := by decide +kernel
theorem dX4_bay_101 : decode cX4_bay 101 = .ok (.bipush (-100), 2) := by decide +kernel
theorem dX4_bay_103 : decode cX4_bay 103 = .ok (.iload 7, 2) := by decide +kernel
theorem dX4_bay_105 : decode cX4_bay 105 = .ok (.isub, 1) := by decide +kernel
theorem dX4_bay_106 : decode cX4_bay 106 = .ok (.ireturn, 1) := by decide +kernel
theorem dX4_bay_107 : decode cX4_bay 107 = .ok (.aload_n 0, 1) := by decide +kernel
theorem dX4_bay_108 : decode cX4_bay 108 = .ok (.getfield 12, 3) := by decide +kernel
theorem dX4_bay_111 : decode cX4_bay 111 = .ok (.aload 5, 2) := by decide +kernel
theorem dX4_bay_113 : decode cX4_bay 113 = .ok (.iload_n 3, 1) := by decide +kernel
theorem dX4_bay_114 : decode cX4_bay 114 = .ok (.invokevirtual 71, 3) := by decide +kernel
theorem dX4_bay_117 : decode cX4_bay 117 = .ok (.aload_n 0, 1) := by decide +kernel
theorem dX4_bay_118 : decode cX4_bay 118 = .ok (.iconst 0, 1) := by decide +kernel
theorem dX4_bay_119 : decode cX4_bay 119 = .ok (.putfield 39, 3) := by decide +kernel
theorem dX4_bay_122 : decode cX4_bay 122 = .ok (.aload_n 0, 1) := by decide +kernel
theorem dX4_bay_123 : decode cX4_bay 123 = .ok (.getfield 28, 3) := by decide +kernel
theorem dX4_bay_126 : decode cX4_bay 126 = .ok (.iconst 0, 1) := by decide +kernel
theorem dX4_bay_127 : decode cX4_bay 127 = .ok (.putfield 75, 3) := by decide +kernel
theorem dX4_bay_130 : decode cX4_bay 130 = .ok (.aload_n 0, 1) := by decide +kernel
theorem dX4_bay_131 : decode cX4_bay 131 = .ok (.getfield 12, 3) := by decide +kernel
theorem dX4_bay_134 : decode cX4_bay 134 = .ok (.getfield 78, 3) := by decide +kernel
theorem dX4_bay_137 : decode cX4_bay 137 = .ok (.ireturn, 1) := by decide +kernel
theorem dX4_ofCell_0 : decode cX4_ofCell 0 = .ok (.aload_n 0, 1) := by decide +kernel
theorem dX4_ofCell_1 : decode cX4_ofCell 1 = .ok (.getfield 12, 3) := by decide +kernel
theorem dX4_ofCell_4 : decode cX4_ofCell 4 = .ok (.iload_n 1, 1) := by decide +kernel
theorem dX4_ofCell_5 : decode cX4_ofCell 5 = .ok (.invokevirtual 81, 3) := by decide +kernel
theorem dX4_ofCell_8 : decode cX4_ofCell 8 = .ok (.ifCond .ne 5, 3) := by decide +kernel
theorem dX4_ofCell_11 : decode cX4_ofCell 11 = .ok (.iconst (-1), 1) := by decide +kernel
theorem dX4_ofCell_12 : decode cX4_ofCell 12 = .ok (.ireturn, 1) := by decide +kernel
theorem dX4_ofCell_13 : decode cX4_ofCell 13 = .ok (.iload_n 2, 1) := by decide +kernel
theorem dX4_ofCell_14 : decode cX4_ofCell 14 = .ok (.tableswitch 102 0 4 #[34, 44, 54, 63, 81], 34) := by decide +kernel
theorem dX4_ofCell_48 : decode cX4_ofCell 48 = .ok (.aload_n 0, 1) := by decide +kernel
theorem dX4_ofCell_49 : decode cX4_ofCell 49 = .ok (.getfield 12, 3) := by decide +kernel
theorem dX4_ofCell_52 : decode cX4_ofCell 52 = .ok (.getfield 84, 3) := by decide +kernel
theorem dX4_ofCell_55 : decode cX4_ofCell 55 = .ok (.iload_n 1, 1) := by decide +kernel
theorem dX4_ofCell_56 : decode cX4_ofCell 56 = .ok (.iaload, 1) := by decide +kernel
theorem dX4_ofCell_57 : decode cX4_ofCell 57 = .ok (.ireturn, 1) := by decide +kernel
theorem dX4_ofCell_58 : decode cX4_ofCell 58 = .ok (.aload_n 0, 1) := by decide +kernel
theorem dX4_ofCell_59 : decode cX4_ofCell 59 = .ok (.getfield 12, 3) := by decide +kernel
theorem dX4_ofCell_62 : decode cX4_ofCell 62 = .ok (.getfield 88, 3) := by decide +kernel
theorem dX4_ofCell_65 : decode cX4_ofCell 65 = .ok (.iload_n 1, 1) := by decide +kernel
theorem dX4_ofCell_66 : decode cX4_ofCell 66 = .ok (.iaload, 1) := by decide +kernel
theorem dX4_ofCell_67 : decode cX4_ofCell 67 = .ok (.ireturn, 1) := by decide +kernel
theorem dX4_ofCell_68 : decode cX4_ofCell 68 = .ok (.aload_n 0, 1) := by decide +kernel
theorem dX4_ofCell_69 : decode cX4_ofCell 69 = .ok (.getfield 12, 3) := by decide +kernel
theorem dX4_ofCell_72 : decode cX4_ofCell 72 = .ok (.iload_n 1, 1) := by decide +kernel
theorem dX4_ofCell_73 : decode cX4_ofCell 73 = .ok (.invokevirtual 91, 3) := by decide +kernel
theorem dX4_ofCell_76 : decode cX4_ofCell 76 = .ok (.ireturn, 1) := by decide +kernel
theorem dX4_ofCell_77 : decode cX4_ofCell 77 = .ok (.aload_n 0, 1) := by decide +kernel
theorem dX4_ofCell_78 : decode cX4_ofCell 78 = .ok (.getfield 12, 3) := by decide +kernel
theorem dX4_ofCell_81 : decode cX4_ofCell 81 = .ok (.getfield 88, 3) := by decide +kernel
theorem dX4_ofCell_84 : decode cX4_ofCell 84 = .ok (.iload_n 1, 1) := by decide +kernel
theorem dX4_ofCell_85 : decode cX4_ofCell 85 = .ok (.iaload, 1) := by decide +kernel
theorem dX4_ofCell_86 : decode cX4_ofCell 86 = .ok (.ifCond .ne 7, 3) := by decide +kernel
theorem dX4_ofCell_89 : decode cX4_ofCell 89 = .ok (.iconst 1, 1) := by decide +kernel
theorem dX4_ofCell_90 : decode cX4_ofCell 90 = .ok (.goto 4, 3) := by decide +kernel
theorem dX4_ofCell_93 : decode cX4_ofCell 93 = .ok (.iconst 0, 1) := by decide +kernel
theorem dX4_ofCell_94 : decode cX4_ofCell 94 = .ok (.ireturn, 1) := by decide +kernel
theorem dX4_ofCell_95 : decode cX4_ofCell 95 = .ok (.aload_n 0, 1) := by decide +kernel
theorem dX4_ofCell_96 : decode cX4_ofCell 96 = .ok (.getfield 12, 3) := by decide +kernel
theorem dX4_ofCell_99 : decode cX4_ofCell 99 = .ok (.iconst 1, 1) := by decide +kernel
theorem dX4_ofCell_100 : decode cX4_ofCell 100 = .ok (.iload_n 1, 1) := by decide +kernel
theorem dX4_ofCell_101 : decode cX4_ofCell 101 = .ok (.ishl, 1) := by decide +kernel
theorem dX4_ofCell_102 : decode cX4_ofCell 102 = .ok (.aload_n 0, 1) := by decide +kernel
theorem dX4_ofCell_103 : decode cX4_ofCell 103 = .ok (.getfield 12, 3) := by decide +kernel
theorem dX4_ofCell_106 : decode cX4_ofCell 106 = .ok (.invokevirtual 94, 3) := by decide +kernel
theorem dX4_ofCell_109 : decode cX4_ofCell 109 = .ok (.invokevirtual 98, 3) := by decide +kernel
theorem dX4_ofCell_112 : decode cX4_ofCell 112 = .ok (.invokestatic 102, 3) := by decide +kernel
theorem dX4_ofCell_115 : decode cX4_ofCell 115 = .ok (.ireturn, 1) := by decide +kernel
theorem dX4_ofCell_116 : decode cX4_ofCell 116 = .ok (.bipush (-2), 2) := by decide +kernel
theorem dX4_ofCell_118 : decode cX4_ofCell 118 = .ok (.ireturn, 1) := by decide +kernel
theorem dX4_shine_0 : decode cX4_shine 0 = .ok (.iload_n 1, 1) := by decide +kernel
theorem dX4_shine_1 : decode cX4_shine 1 = .ok (.iconst 0, 1) := by decide +kernel
theorem dX4_shine_2 : decode cX4_shine 2 = .ok (.bipush 9, 2) := by decide +kernel
theorem dX4_shine_4 : decode cX4_shine 4 = .ok (.invokestatic 107, 3) := by decide +kernel
theorem dX4_shine_7 : decode cX4_shine 7 = .ok (.ifCond .ne 6, 3) := by decide +kernel
theorem dX4_shine_10 : decode cX4_shine 10 = .ok (.bipush (-2), 2) := by decide +kernel
theorem dX4_shine_12 : decode cX4_shine 12 = .ok (.ireturn, 1) := by decide +kernel
theorem dX4_shine_13 : decode cX4_shine 13 = .ok (.aload_n 0, 1) := by decide +kernel
theorem dX4_shine_14 : decode cX4_shine 14 = .ok (.getfield 12, 3) := by decide +kernel
theorem dX4_shine_17 : decode cX4_shine 17 = .ok (.invokevirtual 111, 3) := by decide +kernel
theorem dX4_shine_20 : decode cX4_shine 20 = .ok (.ifCond .ne 6, 3) := by decide +kernel
theorem dX4_shine_23 : decode cX4_shine 23 = .ok (.bipush (-3), 2) := by decide +kernel
theorem dX4_shine_25 : decode cX4_shine 25 = .ok (.ireturn, 1) := by decide +kernel
theorem dX4_shine_26 : decode cX4_shine 26 = .ok (.aload_n 0, 1) := by decide +kernel
theorem dX4_shine_27 : decode cX4_shine 27 = .ok (.getfield 12, 3) := by decide +kernel
theorem dX4_shine_30 : decode cX4_shine 30 = .ok (.getfield 115, 3) := by decide +kernel
theorem dX4_shine_33 : decode cX4_shine 33 = .ok (.istore_n 2, 1) := by decide +kernel
theorem dX4_shine_34 : decode cX4_shine 34 = .ok (.aload_n 0, 1) := by decide +kernel
theorem dX4_shine_35 : decode cX4_shine 35 = .ok (.getfield 12, 3) := by decide +kernel
theorem dX4_shine_38 : decode cX4_shine 38 = .ok (.iload_n 1, 1) := by decide +kernel
theorem dX4_shine_39 : decode cX4_shine 39 = .ok (.putfield 115, 3) := by decide +kernel
theorem dX4_shine_42 : decode cX4_shine 42 = .ok (.iload_n 2, 1) := by decide +kernel
theorem dX4_shine_43 : decode cX4_shine 43 = .ok (.ireturn, 1) := by decide +kernel
theorem dX4_silt_0 : decode cX4_silt 0 = .ok (.aload_n 0, 1) := by decide +kernel
theorem dX4_silt_1 : decode cX4_silt 1 = .ok (.getfield 12, 3) := by decide +kernel
theorem dX4_silt_4 : decode cX4_silt 4 = .ok (.iload_n 1, 1) := by decide +kernel
theorem dX4_silt_5 : decode cX4_silt 5 = .ok (.invokevirtual 81, 3) := by decide +kernel
theorem dX4_silt_8 : decode cX4_silt 8 = .ok (.ifCond .ne 5, 3) := by decide +kernel
theorem dX4_silt_11 : decode cX4_silt 11 = .ok (.iconst (-1), 1) := by decide +kernel
theorem dX4_silt_12 : decode cX4_silt 12 = .ok (.ireturn, 1) := by decide +kernel
theorem dX4_silt_13 : decode cX4_silt 13 = .ok (.iload_n 2, 1) := by decide +kernel
theorem dX4_silt_14 : decode cX4_silt 14 = .ok (.iconst 0, 1) := by decide +kernel
theorem dX4_silt_15 : decode cX4_silt 15 = .ok (.iconst 2, 1) := by decide +kernel
theorem dX4_silt_16 : decode cX4_silt 16 = .ok (.invokestatic 107, 3) := by decide +kernel
theorem dX4_silt_19 : decode cX4_silt 19 = .ok (.ifCond .ne 6, 3) := by decide +kernel
theorem dX4_silt_22 : decode cX4_silt 22 = .ok (.bipush (-2), 2) := by decide +kernel
theorem dX4_silt_24 : decode cX4_silt 24 = .ok (.ireturn, 1) := by decide +kernel
theorem dX4_silt_25 : decode cX4_silt 25 = .ok (.aload_n 0, 1) := by decide +kernel
theorem dX4_silt_26 : decode cX4_silt 26 = .ok (.getfield 12, 3) := by decide +kernel
theorem dX4_silt_29 : decode cX4_silt 29 = .ok (.getfield 84, 3) := by decide +kernel
theorem dX4_silt_32 : decode cX4_silt 32 = .ok (.iload_n 1, 1) := by decide +kernel
theorem dX4_silt_33 : decode cX4_silt 33 = .ok (.iaload, 1) := by decide +kernel
theorem dX4_silt_34 : decode cX4_silt 34 = .ok (.istore_n 3, 1) := by decide +kernel
theorem dX4_silt_35 : decode cX4_silt 35 = .ok (.aload_n 0, 1) := by decide +kernel
theorem dX4_silt_36 : decode cX4_silt 36 = .ok (.getfield 12, 3) := by decide +kernel
theorem dX4_silt_39 : decode cX4_silt 39 = .ok (.getfield 84, 3) := by decide +kernel
theorem dX4_silt_42 : decode cX4_silt 42 = .ok (.iload_n 1, 1) := by decide +kernel
theorem dX4_silt_43 : decode cX4_silt 43 = .ok (.iload_n 2, 1) := by decide +kernel
theorem dX4_silt_44 : decode cX4_silt 44 = .ok (.iastore, 1) := by decide +kernel
theorem dX4_silt_45 : decode cX4_silt 45 = .ok (.iload_n 3, 1) := by decide +kernel
theorem dX4_silt_46 : decode cX4_silt 46 = .ok (.ireturn, 1) := by decide +kernel
theorem dX4_dry_0 : decode cX4_dry 0 = .ok (.iload_n 1, 1) := by decide +kernel
theorem dX4_dry_1 : decode cX4_dry 1 = .ok (.iconst 1, 1) := by decide +kernel
theorem dX4_dry_2 : decode cX4_dry 2 = .ok (.bipush 30, 2) := by decide +kernel
theorem dX4_dry_4 : decode cX4_dry 4 = .ok (.invokestatic 107, 3) := by decide +kernel
theorem dX4_dry_7 : decode cX4_dry 7 = .ok (.ifCond .ne 6, 3) := by decide +kernel
theorem dX4_dry_10 : decode cX4_dry 10 = .ok (.bipush (-2), 2) := by decide +kernel
theorem dX4_dry_12 : decode cX4_dry 12 = .ok (.ireturn, 1) := by decide +kernel
theorem dX4_dry_13 : decode cX4_dry 13 = .ok (.aload_n 0, 1) := by decide +kernel
theorem dX4_dry_14 : decode cX4_dry 14 = .ok (.getfield 12, 3) := by decide +kernel
theorem dX4_dry_17 : decode cX4_dry 17 = .ok (.invokevirtual 111, 3) := by decide +kernel
theorem dX4_dry_20 : decode cX4_dry 20 = .ok (.ifCond .ne 6, 3) := by decide +kernel
theorem dX4_dry_23 : decode cX4_dry 23 = .ok (.bipush (-3), 2) := by decide +kernel
theorem dX4_dry_25 : decode cX4_dry 25 = .ok (.ireturn, 1) := by decide +kernel
theorem dX4_dry_26 : decode cX4_dry 26 = .ok (.aload_n 0, 1) := by decide +kernel
theorem dX4_dry_27 : decode cX4_dry 27 = .ok (.getfield 12, 3) := by decide +kernel
theorem dX4_dry_30 : decode cX4_dry 30 = .ok (.invokevirtual 94, 3) := by decide +kernel
theorem dX4_dry_33 : decode cX4_dry 33 = .ok (.istore_n 2, 1) := by decide +kernel
theorem dX4_dry_34 : decode cX4_dry 34 = .ok (.aload_n 0, 1) := by decide +kernel
theorem dX4_dry_35 : decode cX4_dry 35 = .ok (.getfield 12, 3) := by decide +kernel
theorem dX4_dry_38 : decode cX4_dry 38 = .ok (.iload_n 1, 1) := by decide +kernel
theorem dX4_dry_39 : decode cX4_dry 39 = .ok (.invokevirtual 118, 3) := by decide +kernel
theorem dX4_dry_42 : decode cX4_dry 42 = .ok (.aload_n 0, 1) := by decide +kernel
theorem dX4_dry_43 : decode cX4_dry 43 = .ok (.dup, 1) := by decide +kernel
theorem dX4_dry_44 : decode cX4_dry 44 = .ok (.getfield 39, 3) := by decide +kernel
theorem dX4_dry_47 : decode cX4_dry 47 = .ok (.iload_n 1, 1) := by decide +kernel
theorem dX4_dry_48 : decode cX4_dry 48 = .ok (.iadd, 1) := by decide +kernel
theorem dX4_dry_49 : decode cX4_dry 49 = .ok (.putfield 39, 3) := by decide +kernel
theorem dX4_dry_52 : decode cX4_dry 52 = .ok (.iload_n 2, 1) := by decide +kernel
theorem dX4_dry_53 : decode cX4_dry 53 = .ok (.aload_n 0, 1) := by decide +kernel
theorem dX4_dry_54 : decode cX4_dry 54 = .ok (.getfield 12, 3) := by decide +kernel
theorem dX4_dry_57 : decode cX4_dry 57 = .ok (.invokevirtual 122, 3) := by decide +kernel
theorem dX4_dry_60 : decode cX4_dry 60 = .ok (.iand, 1) := by decide +kernel
theorem dX4_dry_61 : decode cX4_dry 61 = .ok (.invokestatic 102, 3) := by decide +kernel
theorem dX4_dry_64 : decode cX4_dry 64 = .ok (.ireturn, 1) := by decide +kernel
theorem dX4_pour_0 : decode cX4_pour 0 = .ok (.aload_n 0, 1) := by decide +kernel
theorem dX4_pour_1 : decode cX4_pour 1 = .ok (.getfield 12, 3) := by decide +kernel
theorem dX4_pour_4 : decode cX4_pour 4 = .ok (.iload_n 1, 1) := by decide +kernel
theorem dX4_pour_5 : decode cX4_pour 5 = .ok (.invokevirtual 81, 3) := by decide +kernel
theorem dX4_pour_8 : decode cX4_pour 8 = .ok (.ifCond .ne 5, 3) := by decide +kernel
theorem dX4_pour_11 : decode cX4_pour 11 = .ok (.iconst (-1), 1) := by decide +kernel
theorem dX4_pour_12 : decode cX4_pour 12 = .ok (.ireturn, 1) := by decide +kernel
theorem dX4_pour_13 : decode cX4_pour 13 = .ok (.iload_n 2, 1) := by decide +kernel
theorem dX4_pour_14 : decode cX4_pour 14 = .ok (.iconst 1, 1) := by decide +kernel
theorem dX4_pour_15 : decode cX4_pour 15 = .ok (.bipush 9, 2) := by decide +kernel
theorem dX4_pour_17 : decode cX4_pour 17 = .ok (.invokestatic 107, 3) := by decide +kernel
theorem dX4_pour_20 : decode cX4_pour 20 = .ok (.ifCond .ne 6, 3) := by decide +kernel
theorem dX4_pour_23 : decode cX4_pour 23 = .ok (.bipush (-2), 2) := by decide +kernel
theorem dX4_pour_25 : decode cX4_pour 25 = .ok (.ireturn, 1) := by decide +kernel
theorem dX4_pour_26 : decode cX4_pour 26 = .ok (.aload_n 0, 1) := by decide +kernel
theorem dX4_pour_27 : decode cX4_pour 27 = .ok (.getfield 12, 3) := by decide +kernel
theorem dX4_pour_30 : decode cX4_pour 30 = .ok (.iload_n 1, 1) := by decide +kernel
theorem dX4_pour_31 : decode cX4_pour 31 = .ok (.iload_n 2, 1) := by decide +kernel
theorem dX4_pour_32 : decode cX4_pour 32 = .ok (.invokevirtual 125, 3) := by decide +kernel
theorem dX4_pour_35 : decode cX4_pour 35 = .ok (.ifCond .ne 6, 3) := by decide +kernel
theorem dX4_pour_38 : decode cX4_pour 38 = .ok (.bipush (-3), 2) := by decide +kernel
theorem dX4_pour_40 : decode cX4_pour 40 = .ok (.ireturn, 1) := by decide +kernel
theorem dX4_pour_41 : decode cX4_pour 41 = .ok (.aload_n 0, 1) := by decide +kernel
theorem dX4_pour_42 : decode cX4_pour 42 = .ok (.getfield 12, 3) := by decide +kernel
theorem dX4_pour_45 : decode cX4_pour 45 = .ok (.getfield 88, 3) := by decide +kernel
theorem dX4_pour_48 : decode cX4_pour 48 = .ok (.iload_n 1, 1) := by decide +kernel
theorem dX4_pour_49 : decode cX4_pour 49 = .ok (.iaload, 1) := by decide +kernel
theorem dX4_pour_50 : decode cX4_pour 50 = .ok (.ireturn, 1) := by decide +kernel
theorem dX4_cracks_0 : decode cX4_cracks 0 = .ok (.iload_n 1, 1) := by decide +kernel
theorem dX4_cracks_1 : decode cX4_cracks 1 = .ok (.iconst 0, 1) := by decide +kernel
theorem dX4_cracks_2 : decode cX4_cracks 2 = .ok (.iconst 3, 1) := by decide +kernel
theorem dX4_cracks_3 : decode cX4_cracks 3 = .ok (.invokestatic 107, 3) := by decide +kernel
theorem dX4_cracks_6 : decode cX4_cracks 6 = .ok (.ifCond .ne 6, 3) := by decide +kernel
theorem dX4_cracks_9 : decode cX4_cracks 9 = .ok (.bipush (-2), 2) := by decide +kernel
theorem dX4_cracks_11 : decode cX4_cracks 11 = .ok (.ireturn, 1) := by decide +kernel
theorem dX4_cracks_12 : decode cX4_cracks 12 = .ok (.aload_n 0, 1) := by decide +kernel
theorem dX4_cracks_13 : decode cX4_cracks 13 = .ok (.getfield 12, 3) := by decide +kernel
theorem dX4_cracks_16 : decode cX4_cracks 16 = .ok (.invokevirtual 111, 3) := by decide +kernel
theorem dX4_cracks_19 : decode cX4_cracks 19 = .ok (.ifCond .ne 6, 3) := by decide +kernel
theorem dX4_cracks_22 : decode cX4_cracks 22 = .ok (.bipush (-3), 2) := by decide +kernel
theorem dX4_cracks_24 : decode cX4_cracks 24 = .ok (.ireturn, 1) := by decide +kernel
theorem dX4_cracks_25 : decode cX4_cracks 25 = .ok (.iload_n 1, 1) := by decide +kernel
theorem dX4_cracks_26 : decode cX4_cracks 26 = .ok (.tableswitch 65 0 2 #[26, 34, 57], 26) := by decide +kernel
theorem dX4_cracks_52 : decode cX4_cracks 52 = .ok (.aload_n 0, 1) := by decide +kernel
theorem dX4_cracks_53 : decode cX4_cracks 53 = .ok (.getfield 12, 3) := by decide +kernel
theorem dX4_cracks_56 : decode cX4_cracks 56 = .ok (.invokevirtual 122, 3) := by decide +kernel
theorem dX4_cracks_59 : decode cX4_cracks 59 = .ok (.ireturn, 1) := by decide +kernel
theorem dX4_cracks_60 : decode cX4_cracks 60 = .ok (.aload_n 0, 1) := by decide +kernel
theorem dX4_cracks_61 : decode cX4_cracks 61 = .ok (.getfield 12, 3) := by decide +kernel
theorem dX4_cracks_64 : decode cX4_cracks 64 = .ok (.aload_n 0, 1) := by decide +kernel
theorem dX4_cracks_65 : decode cX4_cracks 65 = .ok (.getfield 12, 3) := by decide +kernel
theorem dX4_cracks_68 : decode cX4_cracks 68 = .ok (.invokevirtual 122, 3) := by decide +kernel
theorem dX4_cracks_71 : decode cX4_cracks 71 = .ok (.invokevirtual 128, 3) := by decide +kernel
theorem dX4_cracks_74 : decode cX4_cracks 74 = .ok (.ifCond .eq 7, 3) := by decide +kernel
theorem dX4_cracks_77 : decode cX4_cracks 77 = .ok (.iconst 1, 1) := by decide +kernel
theorem dX4_cracks_78 : decode cX4_cracks 78 = .ok (.goto 4, 3) := by decide +kernel
theorem dX4_cracks_81 : decode cX4_cracks 81 = .ok (.iconst 0, 1) := by decide +kernel
theorem dX4_cracks_82 : decode cX4_cracks 82 = .ok (.ireturn, 1) := by decide +kernel
theorem dX4_cracks_83 : decode cX4_cracks 83 = .ok (.aload_n 0, 1) := by decide +kernel
theorem dX4_cracks_84 : decode cX4_cracks 84 = .ok (.getfield 12, 3) := by decide +kernel
theorem dX4_cracks_87 : decode cX4_cracks 87 = .ok (.invokevirtual 131, 3) := by decide +kernel
theorem dX4_cracks_90 : decode cX4_cracks 90 = .ok (.ireturn, 1) := by decide +kernel
theorem dX4_cracks_91 : decode cX4_cracks 91 = .ok (.aload_n 0, 1) := by decide +kernel
theorem dX4_cracks_92 : decode cX4_cracks 92 = .ok (.getfield 12, 3) := by decide +kernel
theorem dX4_cracks_95 : decode cX4_cracks 95 = .ok (.invokevirtual 134, 3) := by decide +kernel
theorem dX4_cracks_98 : decode cX4_cracks 98 = .ok (.ireturn, 1) := by decide +kernel
theorem dX4_way_0 : decode cX4_way 0 = .ok (.aload_n 0, 1) := by decide +kernel
theorem dX4_way_1 : decode cX4_way 1 = .ok (.getfield 12, 3) := by decide +kernel
theorem dX4_way_4 : decode cX4_way 4 = .ok (.iload_n 1, 1) := by decide +kernel
theorem dX4_way_5 : decode cX4_way 5 = .ok (.invokevirtual 81, 3) := by decide +kernel
theorem dX4_way_8 : decode cX4_way 8 = .ok (.ifCond .eq 14, 3) := by decide +kernel
theorem dX4_way_11 : decode cX4_way 11 = .ok (.aload_n 0, 1) := by decide +kernel
theorem dX4_way_12 : decode cX4_way 12 = .ok (.getfield 12, 3) := by decide +kernel
theorem dX4_way_15 : decode cX4_way 15 = .ok (.iload_n 2, 1) := by decide +kernel
theorem dX4_way_16 : decode cX4_way 16 = .ok (.invokevirtual 81, 3) := by decide +kernel
theorem dX4_way_19 : decode cX4_way 19 = .ok (.ifCond .ne 5, 3) := by decide +kernel
theorem dX4_way_22 : decode cX4_way 22 = .ok (.iconst (-1), 1) := by decide +kernel
theorem dX4_way_23 : decode cX4_way 23 = .ok (.ireturn, 1) := by decide +kernel
theorem dX4_way_24 : decode cX4_way 24 = .ok (.aload_n 0, 1) := by decide +kernel
theorem dX4_way_25 : decode cX4_way 25 = .ok (.getfield 12, 3) := by decide +kernel
theorem dX4_way_28 : decode cX4_way 28 = .ok (.iload_n 1, 1) := by decide +kernel
theorem dX4_way_29 : decode cX4_way 29 = .ok (.iload_n 2, 1) := by decide +kernel
theorem dX4_way_30 : decode cX4_way 30 = .ok (.invokevirtual 137, 3) := by decide +kernel
theorem dX4_way_33 : decode cX4_way 33 = .ok (.ireturn, 1) := by decide +kernel
theorem dX4_plan_0 : decode cX4_plan 0 = .ok (.aload_n 0, 1) := by decide +kernel
theorem dX4_plan_1 : decode cX4_plan 1 = .ok (.iconst 0, 1) := by decide +kernel
theorem dX4_plan_2 : decode cX4_plan 2 = .ok (.putfield 46, 3) := by decide +kernel
theorem dX4_plan_5 : decode cX4_plan 5 = .ok (.iload_n 1, 1) := by decide +kernel
theorem dX4_plan_6 : decode cX4_plan 6 = .ok (.invokestatic 49, 3) := by decide +kernel
theorem dX4_plan_9 : decode cX4_plan 9 = .ok (.ifCond .ne 5, 3) := by decide +kernel
theorem dX4_plan_12 : decode cX4_plan 12 = .ok (.iconst (-1), 1) := by decide +kernel
theorem dX4_plan_13 : decode cX4_plan 13 = .ok (.ireturn, 1) := by decide +kernel
theorem dX4_plan_14 : decode cX4_plan 14 = .ok (.iload 5, 2) := by decide +kernel
theorem dX4_plan_16 : decode cX4_plan 16 = .ok (.iconst 0, 1) := by decide +kernel
theorem dX4_plan_17 : decode cX4_plan 17 = .ok (.iconst 4, 1) := by decide +kernel
theorem dX4_plan_18 : decode cX4_plan 18 = .ok (.invokestatic 107, 3) := by decide +kernel
theorem dX4_plan_21 : decode cX4_plan 21 = .ok (.ifCond .ne 15, 3) := by decide +kernel
theorem dX4_plan_24 : decode cX4_plan 24 = .ok (.iload 5, 2) := by decide +kernel
theorem dX4_plan_26 : decode cX4_plan 26 = .ok (.bipush 10, 2) := by decide +kernel
theorem dX4_plan_28 : decode cX4_plan 28 = .ok (.bipush 21, 2) := by decide +kernel
theorem dX4_plan_30 : decode cX4_plan 30 = .ok (.invokestatic 107, 3) := by decide +kernel
theorem dX4_plan_33 : decode cX4_plan 33 = .ok (.ifCond .eq 7, 3) := by decide +kernel
theorem dX4_plan_36 : decode cX4_plan 36 = .ok (.iconst 1, 1) := by decide +kernel
theorem dX4_plan_37 : decode cX4_plan 37 = .ok (.goto 4, 3) := by decide +kernel
theorem dX4_plan_40 : decode cX4_plan 40 = .ok (.iconst 0, 1) := by decide +kernel
theorem dX4_plan_41 : decode cX4_plan 41 = .ok (.istore 6, 2) := by decide +kernel
theorem dX4_plan_43 : decode cX4_plan 43 = .ok (.iload_n 2, 1) := by decide +kernel
theorem dX4_plan_44 : decode cX4_plan 44 = .ok (.invokestatic 53, 3) := by decide +kernel
theorem dX4_plan_47 : decode cX4_plan 47 = .ok (.ifCond .eq 19, 3) := by decide +kernel
theorem dX4_plan_50 : decode cX4_plan 50 = .ok (.iload 4, 2) := by decide +kernel
theorem dX4_plan_52 : decode cX4_plan 52 = .ok (.iconst 0, 1) := by decide +kernel
theorem dX4_plan_53 : decode cX4_plan 53 = .ok (.bipush 20, 2) := by decide +kernel
theorem dX4_plan_55 : decode cX4_plan 55 = .ok (.invokestatic 107, 3) := by decide +kernel
theorem dX4_plan_58 : decode cX4_plan 58 = .ok (.ifCond .eq 8, 3) := by decide +kernel
theorem dX4_plan_61 : decode cX4_plan 61 = .ok (.iload 6, 2) := by decide +kernel
theorem dX4_plan_63 : decode cX4_plan 63 = .ok (.ifCond .ne 6, 3) := by decide +kernel
theorem dX4_plan_66 : decode cX4_plan 66 = .ok (.bipush (-2), 2) := by decide +kernel
theorem dX4_plan_68 : decode cX4_plan 68 = .ok (.ireturn, 1) := by decide +kernel
theorem dX4_plan_69 : decode cX4_plan 69 = .ok (.aload_n 0, 1) := by decide +kernel
theorem dX4_plan_70 : decode cX4_plan 70 = .ok (.getfield 34, 3) := by decide +kernel
theorem dX4_plan_73 : decode cX4_plan 73 = .ok (.iload_n 1, 1) := by decide +kernel
theorem dX4_plan_74 : decode cX4_plan 74 = .ok (.aaload, 1) := by decide +kernel
theorem dX4_plan_75 : decode cX4_plan 75 = .ok (.astore 7, 2) := by decide +kernel
theorem dX4_plan_77 : decode cX4_plan 77 = .ok (.aload 7, 2) := by decide +kernel
theorem dX4_plan_79 : decode cX4_plan 79 = .ok (.iload_n 2, 1) := by decide +kernel
theorem dX4_plan_80 : decode cX4_plan 80 = .ok (.invokevirtual 56, 3) := by decide +kernel
theorem dX4_plan_83 : decode cX4_plan 83 = .ok (.istore 8, 2) := by decide +kernel
theorem dX4_plan_85 : decode cX4_plan 85 = .ok (.iload 8, 2) := by decide +kernel
theorem dX4_plan_87 : decode cX4_plan 87 = .ok (.ifCond .ne 19, 3) := by decide +kernel
theorem dX4_plan_90 : decode cX4_plan 90 = .ok (.aload 7, 2) := by decide +kernel
theorem dX4_plan_92 : decode cX4_plan 92 = .ok (.iload_n 3, 1) := by decide +kernel
theorem dX4_plan_93 : decode cX4_plan 93 = .ok (.iconst 2, 1) := by decide +kernel
theorem dX4_plan_94 : decode cX4_plan 94 = .ok (.iload 4, 2) := by decide +kernel
theorem dX4_plan_96 : decode cX4_plan 96 = .ok (.imul, 1) := by decide +kernel
theorem dX4_plan_97 : decode cX4_plan 97 = .ok (.invokevirtual 60, 3) := by decide +kernel
theorem dX4_plan_100 : decode cX4_plan 100 = .ok (.ifCond .ne 6, 3) := by decide +kernel
theorem dX4_plan_103 : decode cX4_plan 103 = .ok (.iconst 3, 1) := by decide +kernel
theorem dX4_plan_104 : decode cX4_plan 104 = .ok (.istore 8, 2) := by decide +kernel
theorem dX4_plan_106 : decode cX4_plan 106 = .ok (.iload 8, 2) := by decide +kernel
theorem dX4_plan_108 : decode cX4_plan 108 = .ok (.ifCond .eq 10, 3) := by decide +kernel
theorem dX4_plan_111 : decode cX4_plan 111 = .ok (.aload_n 0, 1) := by decide +kernel
theorem dX4_plan_112 : decode cX4_plan 112 = .ok (.iload 8, 2) := by decide +kernel
theorem dX4_plan_114 : decode cX4_plan 114 = .ok (.invokevirtual 64, 3) := by decide +kernel
theorem dX4_plan_117 : decode cX4_plan 117 = .ok (.ireturn, 1) := by decide +kernel
theorem dX4_plan_118 : decode cX4_plan 118 = .ok (.aload_n 0, 1) := by decide +kernel
theorem dX4_plan_119 : decode cX4_plan 119 = .ok (.getfield 12, 3) := by decide +kernel
theorem dX4_plan_122 : decode cX4_plan 122 = .ok (.invokevirtual 111, 3) := by decide +kernel
theorem dX4_plan_125 : decode cX4_plan 125 = .ok (.ifCond .ne 6, 3) := by decide +kernel
theorem dX4_plan_128 : decode cX4_plan 128 = .ok (.bipush (-3), 2) := by decide +kernel
theorem dX4_plan_130 : decode cX4_plan 130 = .ok (.ireturn, 1) := by decide +kernel
theorem dX4_plan_131 : decode cX4_plan 131 = .ok (.aload_n 0, 1) := by decide +kernel
theorem dX4_plan_132 : decode cX4_plan 132 = .ok (.aload 7, 2) := by decide +kernel
theorem dX4_plan_134 : decode cX4_plan 134 = .ok (.iload_n 3, 1) := by decide +kernel
theorem dX4_plan_135 : decode cX4_plan 135 = .ok (.iload 4, 2) := by decide +kernel
theorem dX4_plan_137 : decode cX4_plan 137 = .ok (.invokevirtual 140, 3) := by decide +kernel
theorem dX4_plan_140 : decode cX4_plan 140 = .ok (.istore 9, 2) := by decide +kernel
theorem dX4_plan_142 : decode cX4_plan 142 = .ok (.iload 9, 2) := by decide +kernel
theorem dX4_plan_144 : decode cX4_plan 144 = .ok (.ifCond .eq 6, 3) := by decide +kernel
theorem dX4_plan_147 : decode cX4_plan 147 = .ok (.iload 9, 2) := by decide +kernel
theorem dX4_plan_149 : decode cX4_plan 149 = .ok (.ireturn, 1) := by decide +kernel
theorem dX4_plan_150 : decode cX4_plan 150 = .ok (.aload_n 0, 1) := by decide +kernel
theorem dX4_plan_151 : decode cX4_plan 151 = .ok (.getfield 21, 3) := by decide +kernel
theorem dX4_plan_154 : decode cX4_plan 154 = .ok (.aload_n 0, 1) := by decide +kernel
theorem dX4_plan_155 : decode cX4_plan 155 = .ok (.getfield 12, 3) := by decide +kernel
theorem dX4_plan_158 : decode cX4_plan 158 = .ok (.aload 7, 2) := by decide +kernel
theorem dX4_plan_160 : decode cX4_plan 160 = .ok (.iload_n 3, 1) := by decide +kernel
theorem dX4_plan_161 : decode cX4_plan 161 = .ok (.iload 4, 2) := by decide +kernel
theorem dX4_plan_163 : decode cX4_plan 163 = .ok (.invokevirtual 143, 3) := by decide +kernel
theorem dX4_plan_166 : decode cX4_plan 166 = .ok (.aload_n 0, 1) := by decide +kernel
theorem dX4_plan_167 : decode cX4_plan 167 = .ok (.getfield 21, 3) := by decide +kernel
theorem dX4_plan_170 : decode cX4_plan 170 = .ok (.iload 5, 2) := by decide +kernel
theorem dX4_plan_172 : decode cX4_plan 172 = .ok (.invokevirtual 147, 3) := by decide +kernel
theorem dX4_plan_175 : decode cX4_plan 175 = .ok (.ireturn, 1) := by decide +kernel
theorem dX4_when_0 : decode cX4_when 0 = .ok (.aload_n 0, 1) := by decide +kernel
theorem dX4_when_1 : decode cX4_when 1 = .ok (.getfield 12, 3) := by decide +kernel
theorem dX4_when_4 : decode cX4_when 4 = .ok (.iload_n 1, 1) := by decide +kernel
theorem dX4_when_5 : decode cX4_when 5 = .ok (.invokevirtual 81, 3) := by decide +kernel
theorem dX4_when_8 : decode cX4_when 8 = .ok (.ifCond .ne 5, 3) := by decide +kernel
theorem dX4_when_11 : decode cX4_when 11 = .ok (.iconst (-1), 1) := by decide +kernel
theorem dX4_when_12 : decode cX4_when 12 = .ok (.ireturn, 1) := by decide +kernel
theorem dX4_when_13 : decode cX4_when 13 = .ok (.iconst 0, 1) := by decide +kernel
theorem dX4_when_14 : decode cX4_when 14 = .ok (.istore_n 2, 1) := by decide +kernel
theorem dX4_when_15 : decode cX4_when 15 = .ok (.iload_n 2, 1) := by decide +kernel
theorem dX4_when_16 : decode cX4_when 16 = .ok (.bipush 20, 2) := by decide +kernel
theorem dX4_when_18 : decode cX4_when 18 = .ok (.if_icmp .gt 23, 3) := by decide +kernel
theorem dX4_when_21 : decode cX4_when 21 = .ok (.aload_n 0, 1) := by decide +kernel
theorem dX4_when_22 : decode cX4_when 22 = .ok (.getfield 12, 3) := by decide +kernel
theorem dX4_when_25 : decode cX4_when 25 = .ok (.iload_n 1, 1) := by decide +kernel
theorem dX4_when_26 : decode cX4_when 26 = .ok (.iload_n 2, 1) := by decide +kernel
theorem dX4_when_27 : decode cX4_when 27 = .ok (.invokevirtual 150, 3) := by decide +kernel
theorem dX4_when_30 : decode cX4_when 30 = .ok (.ifCond .eq 5, 3) := by decide +kernel
theorem dX4_when_33 : decode cX4_when 33 = .ok (.iload_n 2, 1) := by decide +kernel
theorem dX4_when_34 : decode cX4_when 34 = .ok (.ireturn, 1) := by decide +kernel
theorem dX4_when_35 : decode cX4_when 35 = .ok (.iinc 2 1, 3) := by decide +kernel
theorem dX4_when_38 : decode cX4_when 38 = .ok (.goto (-23), 3) := by decide +kernel
theorem dX4_when_41 : decode cX4_when 41 = .ok (.bipush (-9), 2) := by decide +kernel
theorem dX4_when_43 : decode cX4_when 43 = .ok (.ireturn, 1) := by decide +kernel
theorem dX4_opens_0 : decode cX4_opens 0 = .ok (.aload_n 0, 1) := by decide +kernel
theorem dX4_opens_1 : decode cX4_opens 1 = .ok (.getfield 12, 3) := by decide +kernel
theorem dX4_opens_4 : decode cX4_opens 4 = .ok (.invokevirtual 111, 3) := by decide +kernel
theorem dX4_opens_7 : decode cX4_opens 7 = .ok (.ifCond .ne 6, 3) := by decide +kernel
theorem dX4_opens_10 : decode cX4_opens 10 = .ok (.bipush (-3), 2) := by decide +kernel
theorem dX4_opens_12 : decode cX4_opens 12 = .ok (.ireturn, 1) := by decide +kernel
theorem dX4_opens_13 : decode cX4_opens 13 = .ok (.iconst 0, 1) := by decide +kernel
theorem dX4_opens_14 : decode cX4_opens 14 = .ok (.istore_n 1, 1) := by decide +kernel
theorem dX4_opens_15 : decode cX4_opens 15 = .ok (.iload_n 1, 1) := by decide +kernel
theorem dX4_opens_16 : decode cX4_opens 16 = .ok (.bipush 20, 2) := by decide +kernel
theorem dX4_opens_18 : decode cX4_opens 18 = .ok (.if_icmp .gt 29, 3) := by decide +kernel
theorem dX4_opens_21 : decode cX4_opens 21 = .ok (.aload_n 0, 1) := by decide +kernel
theorem dX4_opens_22 : decode cX4_opens 22 = .ok (.getfield 12, 3) := by decide +kernel
theorem dX4_opens_25 : decode cX4_opens 25 = .ok (.aload_n 0, 1) := by decide +kernel
theorem dX4_opens_26 : decode cX4_opens 26 = .ok (.getfield 12, 3) := by decide +kernel
theorem dX4_opens_29 : decode cX4_opens 29 = .ok (.iload_n 1, 1) := by decide +kernel
theorem dX4_opens_30 : decode cX4_opens 30 = .ok (.invokevirtual 153, 3) := by decide +kernel
theorem dX4_opens_33 : decode cX4_opens 33 = .ok (.invokevirtual 128, 3) := by decide +kernel
theorem dX4_opens_36 : decode cX4_opens 36 = .ok (.ifCond .eq 5, 3) := by decide +kernel
theorem dX4_opens_39 : decode cX4_opens 39 = .ok (.iload_n 1, 1) := by decide +kernel
theorem dX4_opens_40 : decode cX4_opens 40 = .ok (.ireturn, 1) := by decide +kernel
theorem dX4_opens_41 : decode cX4_opens 41 = .ok (.iinc 1 1, 3) := by decide +kernel
theorem dX4_opens_44 : decode cX4_opens 44 = .ok (.goto (-29), 3) := by decide +kernel
theorem dX4_opens_47 : decode cX4_opens 47 = .ok (.bipush (-9), 2) := by decide +kernel
theorem dX4_opens_49 : decode cX4_opens 49 = .ok (.ireturn, 1) := by decide +kernel
theorem dX4_bars_0 : decode cX4_bars 0 = .ok (.iload_n 1, 1) := by decide +kernel
theorem dX4_bars_1 : decode cX4_bars 1 = .ok (.iconst 0, 1) := by decide +kernel
theorem dX4_bars_2 : decode cX4_bars 2 = .ok (.bipush 20, 2) := by decide +kernel
theorem dX4_bars_4 : decode cX4_bars 4 = .ok (.invokestatic 107, 3) := by decide +kernel
theorem dX4_bars_7 : decode cX4_bars 7 = .ok (.ifCond .ne 6, 3) := by decide +kernel
theorem dX4_bars_10 : decode cX4_bars 10 = .ok (.bipush (-2), 2) := by decide +kernel
theorem dX4_bars_12 : decode cX4_bars 12 = .ok (.ireturn, 1) := by decide +kernel
theorem dX4_bars_13 : decode cX4_bars 13 = .ok (.aload_n 0, 1) := by decide +kernel
theorem dX4_bars_14 : decode cX4_bars 14 = .ok (.getfield 12, 3) := by decide +kernel
theorem dX4_bars_17 : decode cX4_bars 17 = .ok (.invokevirtual 111, 3) := by decide +kernel
theorem dX4_bars_20 : decode cX4_bars 20 = .ok (.ifCond .ne 6, 3) := by decide +kernel
theorem dX4_bars_23 : decode cX4_bars 23 = .ok (.bipush (-3), 2) := by decide +kernel
theorem dX4_bars_25 : decode cX4_bars 25 = .ok (.ireturn, 1) := by decide +kernel
theorem dX4_bars_26 : decode cX4_bars 26 = .ok (.aload_n 0, 1) := by decide +kernel
theorem dX4_bars_27 : decode cX4_bars 27 = .ok (.getfield 12, 3) := by decide +kernel
theorem dX4_bars_30 : decode cX4_bars 30 = .ok (.aload_n 0, 1) := by decide +kernel
theorem dX4_bars_31 : decode cX4_bars 31 = .ok (.getfield 12, 3) := by decide +kernel
theorem dX4_bars_34 : decode cX4_bars 34 = .ok (.iload_n 1, 1) := by decide +kernel
theorem dX4_bars_35 : decode cX4_bars 35 = .ok (.invokevirtual 153, 3) := by decide +kernel
theorem dX4_bars_38 : decode cX4_bars 38 = .ok (.invokevirtual 156, 3) := by decide +kernel
theorem dX4_bars_41 : decode cX4_bars 41 = .ok (.ireturn, 1) := by decide +kernel
theorem dX4_dates_0 : decode cX4_dates 0 = .ok (.aload_n 0, 1) := by decide +kernel
theorem dX4_dates_1 : decode cX4_dates 1 = .ok (.getfield 12, 3) := by decide +kernel
theorem dX4_dates_4 : decode cX4_dates 4 = .ok (.invokevirtual 111, 3) := by decide +kernel
theorem dX4_dates_7 : decode cX4_dates 7 = .ok (.ifCond .ne 6, 3) := by decide +kernel
theorem dX4_dates_10 : decode cX4_dates 10 = .ok (.bipush (-3), 2) := by decide +kernel
theorem dX4_dates_12 : decode cX4_dates 12 = .ok (.ireturn, 1) := by decide +kernel
theorem dX4_dates_13 : decode cX4_dates 13 = .ok (.iload_n 1, 1) := by decide +kernel
theorem dX4_dates_14 : decode cX4_dates 14 = .ok (.iconst 0, 1) := by decide +kernel
theorem dX4_dates_15 : decode cX4_dates 15 = .ok (.aload_n 0, 1) := by decide +kernel
theorem dX4_dates_16 : decode cX4_dates 16 = .ok (.getfield 12, 3) := by decide +kernel
theorem dX4_dates_19 : decode cX4_dates 19 = .ok (.getfield 159, 3) := by decide +kernel
theorem dX4_dates_22 : decode cX4_dates 22 = .ok (.invokestatic 107, 3) := by decide +kernel
theorem dX4_dates_25 : decode cX4_dates 25 = .ok (.ifCond .ne 6, 3) := by decide +kernel
theorem dX4_dates_28 : decode cX4_dates 28 = .ok (.bipush (-2), 2) := by decide +kernel
theorem dX4_dates_30 : decode cX4_dates 30 = .ok (.ireturn, 1) := by decide +kernel
theorem dX4_dates_31 : decode cX4_dates 31 = .ok (.iconst 0, 1) := by decide +kernel
theorem dX4_dates_32 : decode cX4_dates 32 = .ok (.istore_n 2, 1) := by decide +kernel
theorem dX4_dates_33 : decode cX4_dates 33 = .ok (.iconst 0, 1) := by decide +kernel
theorem dX4_dates_34 : decode cX4_dates 34 = .ok (.istore_n 3, 1) := by decide +kernel
theorem dX4_dates_35 : decode cX4_dates 35 = .ok (.iload_n 3, 1) := by decide +kernel
theorem dX4_dates_36 : decode cX4_dates 36 = .ok (.bipush 20, 2) := by decide +kernel
theorem dX4_dates_38 : decode cX4_dates 38 = .ok (.if_icmp .gt 27, 3) := by decide +kernel
theorem dX4_dates_41 : decode cX4_dates 41 = .ok (.aload_n 0, 1) := by decide +kernel
theorem dX4_dates_42 : decode cX4_dates 42 = .ok (.getfield 12, 3) := by decide +kernel
theorem dX4_dates_45 : decode cX4_dates 45 = .ok (.iload_n 3, 1) := by decide +kernel
theorem dX4_dates_46 : decode cX4_dates 46 = .ok (.invokevirtual 153, 3) := by decide +kernel
theorem dX4_dates_49 : decode cX4_dates 49 = .ok (.iload_n 1, 1) := by decide +kernel
theorem dX4_dates_50 : decode cX4_dates 50 = .ok (.if_icmp .ne 9, 3) := by decide +kernel
theorem dX4_dates_53 : decode cX4_dates 53 = .ok (.iload_n 2, 1) := by decide +kernel
theorem dX4_dates_54 : decode cX4_dates 54 = .ok (.iconst 1, 1) := by decide +kernel
theorem dX4_dates_55 : decode cX4_dates 55 = .ok (.iload_n 3, 1) := by decide +kernel
theorem dX4_dates_56 : decode cX4_dates 56 = .ok (.ishl, 1) := by decide +kernel
theorem dX4_dates_57 : decode cX4_dates 57 = .ok (.ior, 1) := by decide +kernel
theorem dX4_dates_58 : decode cX4_dates 58 = .ok (.istore_n 2, 1) := by decide +kernel
theorem dX4_dates_59 : decode cX4_dates 59 = .ok (.iinc 3 1, 3) := by decide +kernel
theorem dX4_dates_62 : decode cX4_dates 62 = .ok (.goto (-27), 3) := by decide +kernel
theorem dX4_dates_65 : decode cX4_dates 65 = .ok (.iload_n 2, 1) := by decide +kernel
theorem dX4_dates_66 : decode cX4_dates 66 = .ok (.ireturn, 1) := by decide +kernel
theorem dX4_reading_0 : decode cX4_reading 0 = .ok (.aload_n 0, 1) := by decide +kernel
theorem dX4_reading_1 : decode cX4_reading 1 = .ok (.getfield 12, 3) := by decide +kernel
theorem dX4_reading_4 : decode cX4_reading 4 = .ok (.iload_n 1, 1) := by decide +kernel
theorem dX4_reading_5 : decode cX4_reading 5 = .ok (.invokevirtual 81, 3) := by decide +kernel
theorem dX4_reading_8 : decode cX4_reading 8 = .ok (.ifCond .ne 5, 3) := by decide +kernel
theorem dX4_reading_11 : decode cX4_reading 11 = .ok (.iconst (-1), 1) := by decide +kernel
theorem dX4_reading_12 : decode cX4_reading 12 = .ok (.ireturn, 1) := by decide +kernel
theorem dX4_reading_13 : decode cX4_reading 13 = .ok (.iload_n 2, 1) := by decide +kernel
theorem dX4_reading_14 : decode cX4_reading 14 = .ok (.iconst 0, 1) := by decide +kernel
theorem dX4_reading_15 : decode cX4_reading 15 = .ok (.bipush 20, 2) := by decide +kernel
theorem dX4_reading_17 : decode cX4_reading 17 = .ok (.invokestatic 107, 3) := by decide +kernel
theorem dX4_reading_20 : decode cX4_reading 20 = .ok (.ifCond .eq 12, 3) := by decide +kernel
theorem dX4_reading_23 : decode cX4_reading 23 = .ok (.iload_n 3, 1) := by decide +kernel
theorem dX4_reading_24 : decode cX4_reading 24 = .ok (.iconst 0, 1) := by decide +kernel
theorem dX4_reading_25 : decode cX4_reading 25 = .ok (.iconst 1, 1) := by decide +kernel
theorem dX4_reading_26 : decode cX4_reading 26 = .ok (.invokestatic 107, 3) := by decide +kernel
theorem dX4_reading_29 : decode cX4_reading 29 = .ok (.ifCond .ne 6, 3) := by decide +kernel
theorem dX4_reading_32 : decode cX4_reading 32 = .ok (.bipush (-2), 2) := by decide +kernel
theorem dX4_reading_34 : decode cX4_reading 34 = .ok (.ireturn, 1) := by decide +kernel
theorem dX4_reading_35 : decode cX4_reading 35 = .ok (.aload_n 0, 1) := by decide +kernel
theorem dX4_reading_36 : decode cX4_reading 36 = .ok (.getfield 28, 3) := by decide +kernel
theorem dX4_reading_39 : decode cX4_reading 39 = .ok (.iload_n 1, 1) := by decide +kernel
theorem dX4_reading_40 : decode cX4_reading 40 = .ok (.iload_n 2, 1) := by decide +kernel
theorem dX4_reading_41 : decode cX4_reading 41 = .ok (.iload_n 3, 1) := by decide +kernel
theorem dX4_reading_42 : decode cX4_reading 42 = .ok (.invokevirtual 162, 3) := by decide +kernel
theorem dX4_reading_45 : decode cX4_reading 45 = .ok (.ireturn, 1) := by decide +kernel
theorem dX4_back_0 : decode cX4_back 0 = .ok (.iload_n 1, 1) := by decide +kernel
theorem dX4_back_1 : decode cX4_back 1 = .ok (.iconst 0, 1) := by decide +kernel
theorem dX4_back_2 : decode cX4_back 2 = .ok (.aload_n 0, 1) := by decide +kernel
theorem dX4_back_3 : decode cX4_back 3 = .ok (.getfield 28, 3) := by decide +kernel
theorem dX4_back_6 : decode cX4_back 6 = .ok (.getfield 75, 3) := by decide +kernel
theorem dX4_back_9 : decode cX4_back 9 = .ok (.invokestatic 107, 3) := by decide +kernel
theorem dX4_back_12 : decode cX4_back 12 = .ok (.ifCond .ne 6, 3) := by decide +kernel
theorem dX4_back_15 : decode cX4_back 15 = .ok (.bipush (-2), 2) := by decide +kernel
theorem dX4_back_17 : decode cX4_back 17 = .ok (.ireturn, 1) := by decide +kernel
theorem dX4_back_18 : decode cX4_back 18 = .ok (.aload_n 0, 1) := by decide +kernel
theorem dX4_back_19 : decode cX4_back 19 = .ok (.getfield 28, 3) := by decide +kernel
theorem dX4_back_22 : decode cX4_back 22 = .ok (.dup, 1) := by decide +kernel
theorem dX4_back_23 : decode cX4_back 23 = .ok (.getfield 75, 3) := by decide +kernel
theorem dX4_back_26 : decode cX4_back 26 = .ok (.iload_n 1, 1) := by decide +kernel
theorem dX4_back_27 : decode cX4_back 27 = .ok (.isub, 1) := by decide +kernel
theorem dX4_back_28 : decode cX4_back 28 = .ok (.putfield 75, 3) := by decide +kernel
theorem dX4_back_31 : decode cX4_back 31 = .ok (.aload_n 0, 1) := by decide +kernel
theorem dX4_back_32 : decode cX4_back 32 = .ok (.getfield 28, 3) := by decide +kernel
theorem dX4_back_35 : decode cX4_back 35 = .ok (.getfield 75, 3) := by decide +kernel
theorem dX4_back_38 : decode cX4_back 38 = .ok (.ireturn, 1) := by decide +kernel
theorem dX4_wets_0 : decode cX4_wets 0 = .ok (.aload_n 0, 1) := by decide +kernel
theorem dX4_wets_1 : decode cX4_wets 1 = .ok (.getfield 12, 3) := by decide +kernel
theorem dX4_wets_4 : decode cX4_wets 4 = .ok (.iload_n 1, 1) := by decide +kernel
theorem dX4_wets_5 : decode cX4_wets 5 = .ok (.invokevirtual 81, 3) := by decide +kernel
theorem dX4_wets_8 : decode cX4_wets 8 = .ok (.ifCond .ne 5, 3) := by decide +kernel
theorem dX4_wets_11 : decode cX4_wets 11 = .ok (.iconst (-1), 1) := by decide +kernel
theorem dX4_wets_12 : decode cX4_wets 12 = .ok (.ireturn, 1) := by decide +kernel
theorem dX4_wets_13 : decode cX4_wets 13 = .ok (.aload_n 0, 1) := by decide +kernel
theorem dX4_wets_14 : decode cX4_wets 14 = .ok (.getfield 21, 3) := by decide +kernel
theorem dX4_wets_17 : decode cX4_wets 17 = .ok (.getfield 166, 3) := by decide +kernel
theorem dX4_wets_20 : decode cX4_wets 20 = .ok (.astore_n 2, 1) := by decide +kernel
theorem dX4_wets_21 : decode cX4_wets 21 = .ok (.aload_n 2, 1) := by decide +kernel
theorem dX4_wets_22 : decode cX4_wets 22 = .ok (.aload_n 0, 1) := by decide +kernel
theorem dX4_wets_23 : decode cX4_wets 23 = .ok (.getfield 12, 3) := by decide +kernel
theorem dX4_wets_26 : decode cX4_wets 26 = .ok (.invokevirtual 167, 3) := by decide +kernel
theorem dX4_wets_29 : decode cX4_wets 29 = .ok (.iconst 0, 1) := by decide +kernel
theorem dX4_wets_30 : decode cX4_wets 30 = .ok (.istore_n 3, 1) := by decide +kernel
theorem dX4_wets_31 : decode cX4_wets 31 = .ok (.iconst 0, 1) := by decide +kernel
theorem dX4_wets_32 : decode cX4_wets 32 = .ok (.istore 4, 2) := by decide +kernel
theorem dX4_wets_34 : decode cX4_wets 34 = .ok (.iload 4, 2) := by decide +kernel
theorem dX4_wets_36 : decode cX4_wets 36 = .ok (.bipush 9, 2) := by decide +kernel
theorem dX4_wets_38 : decode cX4_wets 38 = .ok (.if_icmp .gt 35, 3) := by decide +kernel
theorem dX4_wets_41 : decode cX4_wets 41 = .ok (.aload_n 2, 1) := by decide +kernel
theorem dX4_wets_42 : decode cX4_wets 42 = .ok (.getfield 88, 3) := by decide +kernel
theorem dX4_wets_45 : decode cX4_wets 45 = .ok (.iload_n 1, 1) := by decide +kernel
theorem dX4_wets_46 : decode cX4_wets 46 = .ok (.iload 4, 2) := by decide +kernel
theorem dX4_wets_48 : decode cX4_wets 48 = .ok (.iastore, 1) := by decide +kernel
theorem dX4_wets_49 : decode cX4_wets 49 = .ok (.aload_n 0, 1) := by decide +kernel
theorem dX4_wets_50 : decode cX4_wets 50 = .ok (.getfield 28, 3) := by decide +kernel
theorem dX4_wets_53 : decode cX4_wets 53 = .ok (.aload_n 2, 1) := by decide +kernel
theorem dX4_wets_54 : decode cX4_wets 54 = .ok (.invokevirtual 171, 3) := by decide +kernel
theorem dX4_wets_57 : decode cX4_wets 57 = .ok (.ifCond .eq 10, 3) := by decide +kernel
theorem dX4_wets_60 : decode cX4_wets 60 = .ok (.iload_n 3, 1) := by decide +kernel
theorem dX4_wets_61 : decode cX4_wets 61 = .ok (.iconst 1, 1) := by decide +kernel
theorem dX4_wets_62 : decode cX4_wets 62 = .ok (.iload 4, 2) := by decide +kernel
theorem dX4_wets_64 : decode cX4_wets 64 = .ok (.ishl, 1) := by decide +kernel
theorem dX4_wets_65 : decode cX4_wets 65 = .ok (.ior, 1) := by decide +kernel
theorem dX4_wets_66 : decode cX4_wets 66 = .ok (.istore_n 3, 1) := by decide +kernel
theorem dX4_wets_67 : decode cX4_wets 67 = .ok (.iinc 4 1, 3) := by decide +kernel
theorem dX4_wets_70 : decode cX4_wets 70 = .ok (.goto (-36), 3) := by decide +kernel
theorem dX4_wets_73 : decode cX4_wets 73 = .ok (.iload_n 3, 1) := by decide +kernel
theorem dX4_wets_74 : decode cX4_wets 74 = .ok (.ireturn, 1) := by decide +kernel
theorem dX4_kinds_0 : decode cX4_kinds 0 = .ok (.aload_n 0, 1) := by decide +kernel
theorem dX4_kinds_1 : decode cX4_kinds 1 = .ok (.getfield 12, 3) := by decide +kernel
theorem dX4_kinds_4 : decode cX4_kinds 4 = .ok (.iload_n 1, 1) := by decide +kernel
theorem dX4_kinds_5 : decode cX4_kinds 5 = .ok (.invokevirtual 81, 3) := by decide +kernel
theorem dX4_kinds_8 : decode cX4_kinds 8 = .ok (.ifCond .ne 5, 3) := by decide +kernel
theorem dX4_kinds_11 : decode cX4_kinds 11 = .ok (.iconst (-1), 1) := by decide +kernel
theorem dX4_kinds_12 : decode cX4_kinds 12 = .ok (.ireturn, 1) := by decide +kernel
theorem dX4_kinds_13 : decode cX4_kinds 13 = .ok (.aload_n 0, 1) := by decide +kernel
theorem dX4_kinds_14 : decode cX4_kinds 14 = .ok (.getfield 21, 3) := by decide +kernel
theorem dX4_kinds_17 : decode cX4_kinds 17 = .ok (.getfield 166, 3) := by decide +kernel
theorem dX4_kinds_20 : decode cX4_kinds 20 = .ok (.astore_n 2, 1) := by decide +kernel
theorem dX4_kinds_21 : decode cX4_kinds 21 = .ok (.aload_n 2, 1) := by decide +kernel
theorem dX4_kinds_22 : decode cX4_kinds 22 = .ok (.aload_n 0, 1) := by decide +kernel
theorem dX4_kinds_23 : decode cX4_kinds 23 = .ok (.getfield 12, 3) := by decide +kernel
theorem dX4_kinds_26 : decode cX4_kinds 26 = .ok (.invokevirtual 167, 3) := by decide +kernel
theorem dX4_kinds_29 : decode cX4_kinds 29 = .ok (.iconst 0, 1) := by decide +kernel
theorem dX4_kinds_30 : decode cX4_kinds 30 = .ok (.istore_n 3, 1) := by decide +kernel
theorem dX4_kinds_31 : decode cX4_kinds 31 = .ok (.iconst 0, 1) := by decide +kernel
theorem dX4_kinds_32 : decode cX4_kinds 32 = .ok (.istore 4, 2) := by decide +kernel
theorem dX4_kinds_34 : decode cX4_kinds 34 = .ok (.iload 4, 2) := by decide +kernel
theorem dX4_kinds_36 : decode cX4_kinds 36 = .ok (.iconst 2, 1) := by decide +kernel
theorem dX4_kinds_37 : decode cX4_kinds 37 = .ok (.if_icmp .gt 35, 3) := by decide +kernel
theorem dX4_kinds_40 : decode cX4_kinds 40 = .ok (.aload_n 2, 1) := by decide +kernel
theorem dX4_kinds_41 : decode cX4_kinds 41 = .ok (.getfield 84, 3) := by decide +kernel
theorem dX4_kinds_44 : decode cX4_kinds 44 = .ok (.iload_n 1, 1) := by decide +kernel
theorem dX4_kinds_45 : decode cX4_kinds 45 = .ok (.iload 4, 2) := by decide +kernel
theorem dX4_kinds_47 : decode cX4_kinds 47 = .ok (.iastore, 1) := by decide +kernel
theorem dX4_kinds_48 : decode cX4_kinds 48 = .ok (.aload_n 0, 1) := by decide +kernel
theorem dX4_kinds_49 : decode cX4_kinds 49 = .ok (.getfield 28, 3) := by decide +kernel
theorem dX4_kinds_52 : decode cX4_kinds 52 = .ok (.aload_n 2, 1) := by decide +kernel
theorem dX4_kinds_53 : decode cX4_kinds 53 = .ok (.invokevirtual 171, 3) := by decide +kernel
theorem dX4_kinds_56 : decode cX4_kinds 56 = .ok (.ifCond .eq 10, 3) := by decide +kernel
theorem dX4_kinds_59 : decode cX4_kinds 59 = .ok (.iload_n 3, 1) := by decide +kernel
theorem dX4_kinds_60 : decode cX4_kinds 60 = .ok (.iconst 1, 1) := by decide +kernel
theorem dX4_kinds_61 : decode cX4_kinds 61 = .ok (.iload 4, 2) := by decide +kernel
theorem dX4_kinds_63 : decode cX4_kinds 63 = .ok (.ishl, 1) := by decide +kernel
theorem dX4_kinds_64 : decode cX4_kinds 64 = .ok (.ior, 1) := by decide +kernel
theorem dX4_kinds_65 : decode cX4_kinds 65 = .ok (.istore_n 3, 1) := by decide +kernel
theorem dX4_kinds_66 : decode cX4_kinds 66 = .ok (.iinc 4 1, 3) := by decide +kernel
theorem dX4_kinds_69 : decode cX4_kinds 69 = .ok (.goto (-35), 3) := by decide +kernel
theorem dX4_kinds_72 : decode cX4_kinds 72 = .ok (.iload_n 3, 1) := by decide +kernel
theorem dX4_kinds_73 : decode cX4_kinds 73 = .ok (.ireturn, 1) := by decide +kernel
theorem dX4_suns_0 : decode cX4_suns 0 = .ok (.aload_n 0, 1) := by decide +kernel
theorem dX4_suns_1 : decode cX4_suns 1 = .ok (.getfield 12, 3) := by decide +kernel
theorem dX4_suns_4 : decode cX4_suns 4 = .ok (.invokevirtual 111, 3) := by decide +kernel
theorem dX4_suns_7 : decode cX4_suns 7 = .ok (.ifCond .ne 6, 3) := by decide +kernel
theorem dX4_suns_10 : decode cX4_suns 10 = .ok (.bipush (-3), 2) := by decide +kernel
theorem dX4_suns_12 : decode cX4_suns 12 = .ok (.ireturn, 1) := by decide +kernel
theorem dX4_suns_13 : decode cX4_suns 13 = .ok (.aload_n 0, 1) := by decide +kernel
theorem dX4_suns_14 : decode cX4_suns 14 = .ok (.getfield 21, 3) := by decide +kernel
theorem dX4_suns_17 : decode cX4_suns 17 = .ok (.getfield 166, 3) := by decide +kernel
theorem dX4_suns_20 : decode cX4_suns 20 = .ok (.astore_n 1, 1) := by decide +kernel
theorem dX4_suns_21 : decode cX4_suns 21 = .ok (.aload_n 1, 1) := by decide +kernel
theorem dX4_suns_22 : decode cX4_suns 22 = .ok (.aload_n 0, 1) := by decide +kernel
theorem dX4_suns_23 : decode cX4_suns 23 = .ok (.getfield 12, 3) := by decide +kernel
theorem dX4_suns_26 : decode cX4_suns 26 = .ok (.invokevirtual 167, 3) := by decide +kernel
theorem dX4_suns_29 : decode cX4_suns 29 = .ok (.iconst 0, 1) := by decide +kernel
theorem dX4_suns_30 : decode cX4_suns 30 = .ok (.istore_n 2, 1) := by decide +kernel
theorem dX4_suns_31 : decode cX4_suns 31 = .ok (.iconst 0, 1) := by decide +kernel
theorem dX4_suns_32 : decode cX4_suns 32 = .ok (.istore_n 3, 1) := by decide +kernel
theorem dX4_suns_33 : decode cX4_suns 33 = .ok (.iload_n 3, 1) := by decide +kernel
theorem dX4_suns_34 : decode cX4_suns 34 = .ok (.bipush 9, 2) := by decide +kernel
theorem dX4_suns_36 : decode cX4_suns 36 = .ok (.if_icmp .gt 31, 3) := by decide +kernel
theorem dX4_suns_39 : decode cX4_suns 39 = .ok (.aload_n 1, 1) := by decide +kernel
theorem dX4_suns_40 : decode cX4_suns 40 = .ok (.iload_n 3, 1) := by decide +kernel
theorem dX4_suns_41 : decode cX4_suns 41 = .ok (.putfield 115, 3) := by decide +kernel
theorem dX4_suns_44 : decode cX4_suns 44 = .ok (.aload_n 0, 1) := by decide +kernel
theorem dX4_suns_45 : decode cX4_suns 45 = .ok (.getfield 28, 3) := by decide +kernel
theorem dX4_suns_48 : decode cX4_suns 48 = .ok (.aload_n 1, 1) := by decide +kernel
theorem dX4_suns_49 : decode cX4_suns 49 = .ok (.invokevirtual 171, 3) := by decide +kernel
theorem dX4_suns_52 : decode cX4_suns 52 = .ok (.ifCond .eq 9, 3) := by decide +kernel
theorem dX4_suns_55 : decode cX4_suns 55 = .ok (.iload_n 2, 1) := by decide +kernel
theorem dX4_suns_56 : decode cX4_suns 56 = .ok (.iconst 1, 1) := by decide +kernel
theorem dX4_suns_57 : decode cX4_suns 57 = .ok (.iload_n 3, 1) := by decide +kernel
theorem dX4_suns_58 : decode cX4_suns 58 = .ok (.ishl, 1) := by decide +kernel
theorem dX4_suns_59 : decode cX4_suns 59 = .ok (.ior, 1) := by decide +kernel
theorem dX4_suns_60 : decode cX4_suns 60 = .ok (.istore_n 2, 1) := by decide +kernel
theorem dX4_suns_61 : decode cX4_suns 61 = .ok (.iinc 3 1, 3) := by decide +kernel
theorem dX4_suns_64 : decode cX4_suns 64 = .ok (.goto (-31), 3) := by decide +kernel
theorem dX4_suns_67 : decode cX4_suns 67 = .ok (.iload_n 2, 1) := by decide +kernel
theorem dX4_suns_68 : decode cX4_suns 68 = .ok (.ireturn, 1) := by decide +kernel
theorem dX4_odds_0 : decode cX4_odds 0 = .ok (.iload_n 1, 1) := by decide +kernel
theorem dX4_odds_1 : decode cX4_odds 1 = .ok (.iconst 0, 1) := by decide +kernel
theorem dX4_odds_2 : decode cX4_odds 2 = .ok (.iconst 1, 1) := by decide +kernel
theorem dX4_odds_3 : decode cX4_odds 3 = .ok (.invokestatic 107, 3) := by decide +kernel
theorem dX4_odds_6 : decode cX4_odds 6 = .ok (.ifCond .eq 13, 3) := by decide +kernel
theorem dX4_odds_9 : decode cX4_odds 9 = .ok (.aload_n 0, 1) := by decide +kernel
theorem dX4_odds_10 : decode cX4_odds 10 = .ok (.getfield 12, 3) := by decide +kernel
theorem dX4_odds_13 : decode cX4_odds 13 = .ok (.invokevirtual 111, 3) := by decide +kernel
theorem dX4_odds_16 : decode cX4_odds 16 = .ok (.ifCond .ne 7, 3) := by decide +kernel
theorem dX4_odds_19 : decode cX4_odds 19 = .ok (.ldc2_w 175, 3) := by decide +kernel
theorem dX4_odds_22 : decode cX4_odds 22 = .ok (.lreturn, 1) := by decide +kernel
theorem dX4_odds_23 : decode cX4_odds 23 = .ok (.aload_n 0, 1) := by decide +kernel
theorem dX4_odds_24 : decode cX4_odds 24 = .ok (.getfield 12, 3) := by decide +kernel
theorem dX4_odds_27 : decode cX4_odds 27 = .ok (.invokevirtual 177, 3) := by decide +kernel
theorem dX4_odds_30 : decode cX4_odds 30 = .ok (.istore_n 2, 1) := by decide +kernel
theorem dX4_odds_31 : decode cX4_odds 31 = .ok (.iconst 1, 1) := by decide +kernel
theorem dX4_odds_32 : decode cX4_odds 32 = .ok (.aload_n 0, 1) := by decide +kernel
theorem dX4_odds_33 : decode cX4_odds 33 = .ok (.getfield 12, 3) := by decide +kernel
theorem dX4_odds_36 : decode cX4_odds 36 = .ok (.invokevirtual 94, 3) := by decide +kernel
theorem dX4_odds_39 : decode cX4_odds 39 = .ok (.invokestatic 102, 3) := by decide +kernel
theorem dX4_odds_42 : decode cX4_odds 42 = .ok (.ishl, 1) := by decide +kernel
theorem dX4_odds_43 : decode cX4_odds 43 = .ok (.istore_n 3, 1) := by decide +kernel
theorem dX4_odds_44 : decode cX4_odds 44 = .ok (.iconst 0, 1) := by decide +kernel
theorem dX4_odds_45 : decode cX4_odds 45 = .ok (.istore 4, 2) := by decide +kernel
theorem dX4_odds_47 : decode cX4_odds 47 = .ok (.iload 4, 2) := by decide +kernel
theorem dX4_odds_49 : decode cX4_odds 49 = .ok (.bipush 12, 2) := by decide +kernel
theorem dX4_odds_51 : decode cX4_odds 51 = .ok (.if_icmp .ge 28, 3) := by decide +kernel
theorem dX4_odds_54 : decode cX4_odds 54 = .ok (.iload_n 3, 1) := by decide +kernel
theorem dX4_odds_55 : decode cX4_odds 55 = .ok (.iconst 1, 1) := by decide +kernel
theorem dX4_odds_56 : decode cX4_odds 56 = .ok (.if_icmp .le 23, 3) := by decide +kernel
theorem dX4_odds_59 : decode cX4_odds 59 = .ok (.iload_n 2, 1) := by decide +kernel
theorem dX4_odds_60 : decode cX4_odds 60 = .ok (.iconst 1, 1) := by decide +kernel
theorem dX4_odds_61 : decode cX4_odds 61 = .ok (.iand, 1) := by decide +kernel
theorem dX4_odds_62 : decode cX4_odds 62 = .ok (.ifCond .ne 17, 3) := by decide +kernel
theorem dX4_odds_65 : decode cX4_odds 65 = .ok (.iload_n 2, 1) := by decide +kernel
theorem dX4_odds_66 : decode cX4_odds 66 = .ok (.iconst 1, 1) := by decide +kernel
theorem dX4_odds_67 : decode cX4_odds 67 = .ok (.ishr, 1) := by decide +kernel
theorem dX4_odds_68 : decode cX4_odds 68 = .ok (.istore_n 2, 1) := by decide +kernel
theorem dX4_odds_69 : decode cX4_odds 69 = .ok (.iload_n 3, 1) := by decide +kernel
theorem dX4_odds_70 : decode cX4_odds 70 = .ok (.iconst 1, 1) := by decide +kernel
theorem dX4_odds_71 : decode cX4_odds 71 = .ok (.ishr, 1) := by decide +kernel
theorem dX4_odds_72 : decode cX4_odds 72 = .ok (.istore_n 3, 1) := by decide +kernel
theorem dX4_odds_73 : decode cX4_odds 73 = .ok (.iinc 4 1, 3) := by decide +kernel
theorem dX4_odds_76 : decode cX4_odds 76 = .ok (.goto (-29), 3) := by decide +kernel
theorem dX4_odds_79 : decode cX4_odds 79 = .ok (.iload_n 1, 1) := by decide +kernel
theorem dX4_odds_80 : decode cX4_odds 80 = .ok (.ifCond .ne 8, 3) := by decide +kernel
theorem dX4_odds_83 : decode cX4_odds 83 = .ok (.iload_n 2, 1) := by decide +kernel
theorem dX4_odds_84 : decode cX4_odds 84 = .ok (.i2l, 1) := by decide +kernel
theorem dX4_odds_85 : decode cX4_odds 85 = .ok (.goto 5, 3) := by decide +kernel
theorem dX4_odds_88 : decode cX4_odds 88 = .ok (.iload_n 3, 1) := by decide +kernel
theorem dX4_odds_89 : decode cX4_odds 89 = .ok (.i2l, 1) := by decide +kernel
theorem dX4_odds_90 : decode cX4_odds 90 = .ok (.lreturn, 1) := by decide +kernel
theorem dX4_sheet_0 : decode cX4_sheet 0 = .ok (.aload_n 0, 1) := by decide +kernel
theorem dX4_sheet_1 : decode cX4_sheet 1 = .ok (.iconst 0, 1) := by decide +kernel
theorem dX4_sheet_2 : decode cX4_sheet 2 = .ok (.putfield 46, 3) := by decide +kernel
theorem dX4_sheet_5 : decode cX4_sheet 5 = .ok (.iload_n 1, 1) := by decide +kernel
theorem dX4_sheet_6 : decode cX4_sheet 6 = .ok (.invokestatic 49, 3) := by decide +kernel
theorem dX4_sheet_9 : decode cX4_sheet 9 = .ok (.ifCond .ne 5, 3) := by decide +kernel
theorem dX4_sheet_12 : decode cX4_sheet 12 = .ok (.iconst (-1), 1) := by decide +kernel
theorem dX4_sheet_13 : decode cX4_sheet 13 = .ok (.ireturn, 1) := by decide +kernel
theorem dX4_sheet_14 : decode cX4_sheet 14 = .ok (.iload_n 2, 1) := by decide +kernel
theorem dX4_sheet_15 : decode cX4_sheet 15 = .ok (.invokestatic 53, 3) := by decide +kernel
theorem dX4_sheet_18 : decode cX4_sheet 18 = .ok (.ifCond .eq 9, 3) := by decide +kernel
theorem dX4_sheet_21 : decode cX4_sheet 21 = .ok (.iload_n 3, 1) := by decide +kernel
theorem dX4_sheet_22 : decode cX4_sheet 22 = .ok (.bipush 60, 2) := by decide +kernel
theorem dX4_sheet_24 : decode cX4_sheet 24 = .ok (.if_icmp .le 6, 3) := by decide +kernel
theorem dX4_sheet_27 : decode cX4_sheet 27 = .ok (.bipush (-2), 2) := by decide +kernel
theorem dX4_sheet_29 : decode cX4_sheet 29 = .ok (.ireturn, 1) := by decide +kernel
theorem dX4_sheet_30 : decode cX4_sheet 30 = .ok (.iload_n 3, 1) := by decide +kernel
theorem dX4_sheet_31 : decode cX4_sheet 31 = .ok (.ifCond .ge 9, 3) := by decide +kernel
theorem dX4_sheet_34 : decode cX4_sheet 34 = .ok (.aload_n 0, 1) := by decide +kernel
theorem dX4_sheet_35 : decode cX4_sheet 35 = .ok (.iconst 4, 1) := by decide +kernel
theorem dX4_sheet_36 : decode cX4_sheet 36 = .ok (.invokevirtual 64, 3) := by decide +kernel
theorem dX4_sheet_39 : decode cX4_sheet 39 = .ok (.ireturn, 1) := by decide +kernel
theorem dX4_sheet_40 : decode cX4_sheet 40 = .ok (.aload_n 0, 1) := by decide +kernel
theorem dX4_sheet_41 : decode cX4_sheet 41 = .ok (.getfield 34, 3) := by decide +kernel
theorem dX4_sheet_44 : decode cX4_sheet 44 = .ok (.iload_n 1, 1) := by decide +kernel
theorem dX4_sheet_45 : decode cX4_sheet 45 = .ok (.aaload, 1) := by decide +kernel
theorem dX4_sheet_46 : decode cX4_sheet 46 = .ok (.iload_n 2, 1) := by decide +kernel
theorem dX4_sheet_47 : decode cX4_sheet 47 = .ok (.iload_n 3, 1) := by decide +kernel
theorem dX4_sheet_48 : decode cX4_sheet 48 = .ok (.invokevirtual 180, 3) := by decide +kernel
theorem dX4_sheet_51 : decode cX4_sheet 51 = .ok (.iconst 1, 1) := by decide +kernel
theorem dX4_sheet_52 : decode cX4_sheet 52 = .ok (.ireturn, 1) := by decide +kernel
theorem dX4_lose_0 : decode cX4_lose 0 = .ok (.iload_n 1, 1) := by decide +kernel
theorem dX4_lose_1 : decode cX4_lose 1 = .ok (.invokestatic 49, 3) := by decide +kernel
theorem dX4_lose_4 : decode cX4_lose 4 = .ok (.ifCond .ne 5, 3) := by decide +kernel
theorem dX4_lose_7 : decode cX4_lose 7 = .ok (.iconst (-1), 1) := by decide +kernel
theorem dX4_lose_8 : decode cX4_lose 8 = .ok (.ireturn, 1) := by decide +kernel
theorem dX4_lose_9 : decode cX4_lose 9 = .ok (.aload_n 0, 1) := by decide +kernel
theorem dX4_lose_10 : decode cX4_lose 10 = .ok (.getfield 34, 3) := by decide +kernel
theorem dX4_lose_13 : decode cX4_lose 13 = .ok (.iload_n 1, 1) := by decide +kernel
theorem dX4_lose_14 : decode cX4_lose 14 = .ok (.aaload, 1) := by decide +kernel
theorem dX4_lose_15 : decode cX4_lose 15 = .ok (.invokevirtual 184, 3) := by decide +kernel
theorem dX4_lose_18 : decode cX4_lose 18 = .ok (.ifCond .eq 7, 3) := by decide +kernel
theorem dX4_lose_21 : decode cX4_lose 21 = .ok (.iconst 0, 1) := by decide +kernel
theorem dX4_lose_22 : decode cX4_lose 22 = .ok (.goto 4, 3) := by decide +kernel
theorem dX4_lose_25 : decode cX4_lose 25 = .ok (.iconst 1, 1) := by decide +kernel
theorem dX4_lose_26 : decode cX4_lose 26 = .ok (.istore_n 2, 1) := by decide +kernel
theorem dX4_lose_27 : decode cX4_lose 27 = .ok (.aload_n 0, 1) := by decide +kernel
theorem dX4_lose_28 : decode cX4_lose 28 = .ok (.getfield 34, 3) := by decide +kernel
theorem dX4_lose_31 : decode cX4_lose 31 = .ok (.iload_n 1, 1) := by decide +kernel
theorem dX4_lose_32 : decode cX4_lose 32 = .ok (.aaload, 1) := by decide +kernel
theorem dX4_lose_33 : decode cX4_lose 33 = .ok (.invokevirtual 187, 3) := by decide +kernel
theorem dX4_lose_36 : decode cX4_lose 36 = .ok (.iload_n 2, 1) := by decide +kernel
theorem dX4_lose_37 : decode cX4_lose 37 = .ok (.ireturn, 1) := by decide +kernel
theorem dX4_put_0 : decode cX4_put 0 = .ok (.aload_n 0, 1) := by decide +kernel
theorem dX4_put_1 : decode cX4_put 1 = .ok (.iconst 0, 1) := by decide +kernel
theorem dX4_put_2 : decode cX4_put 2 = .ok (.putfield 46, 3) := by decide +kernel
theorem dX4_put_5 : decode cX4_put 5 = .ok (.iload_n 1, 1) := by decide +kernel
theorem dX4_put_6 : decode cX4_put 6 = .ok (.invokestatic 49, 3) := by decide +kernel
theorem dX4_put_9 : decode cX4_put 9 = .ok (.ifCond .ne 5, 3) := by decide +kernel
theorem dX4_put_12 : decode cX4_put 12 = .ok (.iconst (-1), 1) := by decide +kernel
theorem dX4_put_13 : decode cX4_put 13 = .ok (.ireturn, 1) := by decide +kernel
theorem dX4_put_14 : decode cX4_put 14 = .ok (.aload_n 0, 1) := by decide +kernel
theorem dX4_put_15 : decode cX4_put 15 = .ok (.getfield 34, 3) := by decide +kernel
theorem dX4_put_18 : decode cX4_put 18 = .ok (.iload_n 1, 1) := by decide +kernel
theorem dX4_put_19 : decode cX4_put 19 = .ok (.aaload, 1) := by decide +kernel
theorem dX4_put_20 : decode cX4_put 20 = .ok (.astore 4, 2) := by decide +kernel
theorem dX4_put_22 : decode cX4_put 22 = .ok (.aload 4, 2) := by decide +kernel
theorem dX4_put_24 : decode cX4_put 24 = .ok (.invokevirtual 184, 3) := by decide +kernel
theorem dX4_put_27 : decode cX4_put 27 = .ok (.ifCond .eq 9, 3) := by decide +kernel
theorem dX4_put_30 : decode cX4_put 30 = .ok (.aload_n 0, 1) := by decide +kernel
theorem dX4_put_31 : decode cX4_put 31 = .ok (.iconst 1, 1) := by decide +kernel
theorem dX4_put_32 : decode cX4_put 32 = .ok (.invokevirtual 64, 3) := by decide +kernel
theorem dX4_put_35 : decode cX4_put 35 = .ok (.ireturn, 1) := by decide +kernel
theorem dX4_put_36 : decode cX4_put 36 = .ok (.aload 4, 2) := by decide +kernel
theorem dX4_put_38 : decode cX4_put 38 = .ok (.iload_n 2, 1) := by decide +kernel
theorem dX4_put_39 : decode cX4_put 39 = .ok (.invokevirtual 190, 3) := by decide +kernel
theorem dX4_put_42 : decode cX4_put 42 = .ok (.ifCond .ne 9, 3) := by decide +kernel
theorem dX4_put_45 : decode cX4_put 45 = .ok (.aload_n 0, 1) := by decide +kernel
theorem dX4_put_46 : decode cX4_put 46 = .ok (.iconst 3, 1) := by decide +kernel
theorem dX4_put_47 : decode cX4_put 47 = .ok (.invokevirtual 64, 3) := by decide +kernel
theorem dX4_put_50 : decode cX4_put 50 = .ok (.ireturn, 1) := by decide +kernel
theorem dX4_put_51 : decode cX4_put 51 = .ok (.aload 4, 2) := by decide +kernel
theorem dX4_put_53 : decode cX4_put 53 = .ok (.iload_n 2, 1) := by decide +kernel
theorem dX4_put_54 : decode cX4_put 54 = .ok (.iload_n 3, 1) := by decide +kernel
theorem dX4_put_55 : decode cX4_put 55 = .ok (.invokevirtual 193, 3) := by decide +kernel
theorem dX4_put_58 : decode cX4_put 58 = .ok (.iconst 1, 1) := by decide +kernel
theorem dX4_put_59 : decode cX4_put 59 = .ok (.ireturn, 1) := by decide +kernel
theorem dX4_cell_0 : decode cX4_cell 0 = .ok (.aload_n 0, 1) := by decide +kernel
theorem dX4_cell_1 : decode cX4_cell 1 = .ok (.iconst 0, 1) := by decide +kernel
theorem dX4_cell_2 : decode cX4_cell 2 = .ok (.putfield 46, 3) := by decide +kernel
theorem dX4_cell_5 : decode cX4_cell 5 = .ok (.iload_n 1, 1) := by decide +kernel
theorem dX4_cell_6 : decode cX4_cell 6 = .ok (.invokestatic 49, 3) := by decide +kernel
theorem dX4_cell_9 : decode cX4_cell 9 = .ok (.ifCond .eq 10, 3) := by decide +kernel
theorem dX4_cell_12 : decode cX4_cell 12 = .ok (.iload_n 3, 1) := by decide +kernel
theorem dX4_cell_13 : decode cX4_cell 13 = .ok (.invokestatic 53, 3) := by decide +kernel
theorem dX4_cell_16 : decode cX4_cell 16 = .ok (.ifCond .ne 7, 3) := by decide +kernel
theorem dX4_cell_19 : decode cX4_cell 19 = .ok (.ldc2_w 175, 3) := by decide +kernel
theorem dX4_cell_22 : decode cX4_cell 22 = .ok (.lreturn, 1) := by decide +kernel
theorem dX4_cell_23 : decode cX4_cell 23 = .ok (.aload_n 0, 1) := by decide +kernel
theorem dX4_cell_24 : decode cX4_cell 24 = .ok (.getfield 34, 3) := by decide +kernel
theorem dX4_cell_27 : decode cX4_cell 27 = .ok (.iload_n 1, 1) := by decide +kernel
theorem dX4_cell_28 : decode cX4_cell 28 = .ok (.aaload, 1) := by decide +kernel
theorem dX4_cell_29 : decode cX4_cell 29 = .ok (.astore 4, 2) := by decide +kernel
theorem dX4_cell_31 : decode cX4_cell 31 = .ok (.aload_n 0, 1) := by decide +kernel
theorem dX4_cell_32 : decode cX4_cell 32 = .ok (.aload 4, 2) := by decide +kernel
theorem dX4_cell_34 : decode cX4_cell 34 = .ok (.iload_n 3, 1) := by decide +kernel
theorem dX4_cell_35 : decode cX4_cell 35 = .ok (.invokevirtual 56, 3) := by decide +kernel
theorem dX4_cell_38 : decode cX4_cell 38 = .ok (.putfield 46, 3) := by decide +kernel
theorem dX4_cell_41 : decode cX4_cell 41 = .ok (.aload_n 0, 1) := by decide +kernel
theorem dX4_cell_42 : decode cX4_cell 42 = .ok (.getfield 46, 3) := by decide +kernel
theorem dX4_cell_45 : decode cX4_cell 45 = .ok (.ifCond .ne 17, 3) := by decide +kernel
theorem dX4_cell_48 : decode cX4_cell 48 = .ok (.aload 4, 2) := by decide +kernel
theorem dX4_cell_50 : decode cX4_cell 50 = .ok (.iload_n 2, 1) := by decide +kernel
theorem dX4_cell_51 : decode cX4_cell 51 = .ok (.invokevirtual 190, 3) := by decide +kernel
theorem dX4_cell_54 : decode cX4_cell 54 = .ok (.ifCond .ne 8, 3) := by decide +kernel
theorem dX4_cell_57 : decode cX4_cell 57 = .ok (.aload_n 0, 1) := by decide +kernel
theorem dX4_cell_58 : decode cX4_cell 58 = .ok (.iconst 3, 1) := by decide +kernel
theorem dX4_cell_59 : decode cX4_cell 59 = .ok (.putfield 46, 3) := by decide +kernel
theorem dX4_cell_62 : decode cX4_cell 62 = .ok (.aload_n 0, 1) := by decide +kernel
theorem dX4_cell_63 : decode cX4_cell 63 = .ok (.getfield 46, 3) := by decide +kernel
theorem dX4_cell_66 : decode cX4_cell 66 = .ok (.ifCond .ne 13, 3) := by decide +kernel
theorem dX4_cell_69 : decode cX4_cell 69 = .ok (.aload 4, 2) := by decide +kernel
theorem dX4_cell_71 : decode cX4_cell 71 = .ok (.iload_n 2, 1) := by decide +kernel
theorem dX4_cell_72 : decode cX4_cell 72 = .ok (.invokevirtual 196, 3) := by decide +kernel
theorem dX4_cell_75 : decode cX4_cell 75 = .ok (.i2l, 1) := by decide +kernel
theorem dX4_cell_76 : decode cX4_cell 76 = .ok (.goto 6, 3) := by decide +kernel
theorem dX4_cell_79 : decode cX4_cell 79 = .ok (.ldc2_w 175, 3) := by decide +kernel
theorem dX4_cell_82 : decode cX4_cell 82 = .ok (.lreturn, 1) := by decide +kernel
theorem dX4_copy_0 : decode cX4_copy 0 = .ok (.aload_n 0, 1) := by decide +kernel
theorem dX4_copy_1 : decode cX4_copy 1 = .ok (.iconst 0, 1) := by decide +kernel
theorem dX4_copy_2 : decode cX4_copy 2 = .ok (.putfield 46, 3) := by decide +kernel
theorem dX4_copy_5 : decode cX4_copy 5 = .ok (.iload_n 1, 1) := by decide +kernel
theorem dX4_copy_6 : decode cX4_copy 6 = .ok (.invokestatic 49, 3) := by decide +kernel
theorem dX4_copy_9 : decode cX4_copy 9 = .ok (.ifCond .eq 10, 3) := by decide +kernel
theorem dX4_copy_12 : decode cX4_copy 12 = .ok (.iload_n 3, 1) := by decide +kernel
theorem dX4_copy_13 : decode cX4_copy 13 = .ok (.invokestatic 49, 3) := by decide +kernel
theorem dX4_copy_16 : decode cX4_copy 16 = .ok (.ifCond .ne 5, 3) := by decide +kernel
theorem dX4_copy_19 : decode cX4_copy 19 = .ok (.iconst (-1), 1) := by decide +kernel
theorem dX4_copy_20 : decode cX4_copy 20 = .ok (.ireturn, 1) := by decide +kernel
theorem dX4_copy_21 : decode cX4_copy 21 = .ok (.aload_n 0, 1) := by decide +kernel
theorem dX4_copy_22 : decode cX4_copy 22 = .ok (.getfield 34, 3) := by decide +kernel
theorem dX4_copy_25 : decode cX4_copy 25 = .ok (.iload_n 1, 1) := by decide +kernel
theorem dX4_copy_26 : decode cX4_copy 26 = .ok (.aaload, 1) := by decide +kernel
theorem dX4_copy_27 : decode cX4_copy 27 = .ok (.astore 6, 2) := by decide +kernel
theorem dX4_copy_29 : decode cX4_copy 29 = .ok (.aload_n 0, 1) := by decide +kernel
theorem dX4_copy_30 : decode cX4_copy 30 = .ok (.getfield 34, 3) := by decide +kernel
theorem dX4_copy_33 : decode cX4_copy 33 = .ok (.iload_n 3, 1) := by decide +kernel
theorem dX4_copy_34 : decode cX4_copy 34 = .ok (.aaload, 1) := by decide +kernel
theorem dX4_copy_35 : decode cX4_copy 35 = .ok (.astore 7, 2) := by decide +kernel
theorem dX4_copy_37 : decode cX4_copy 37 = .ok (.aload 6, 2) := by decide +kernel
theorem dX4_copy_39 : decode cX4_copy 39 = .ok (.invokevirtual 184, 3) := by decide +kernel
theorem dX4_copy_42 : decode cX4_copy 42 = .ok (.ifCond .ne 11, 3) := by decide +kernel
theorem dX4_copy_45 : decode cX4_copy 45 = .ok (.aload 7, 2) := by decide +kernel
theorem dX4_copy_47 : decode cX4_copy 47 = .ok (.invokevirtual 184, 3) := by decide +kernel
theorem dX4_copy_50 : decode cX4_copy 50 = .ok (.ifCond .eq 9, 3) := by decide +kernel
theorem dX4_copy_53 : decode cX4_copy 53 = .ok (.aload_n 0, 1) := by decide +kernel
theorem dX4_copy_54 : decode cX4_copy 54 = .ok (.iconst 1, 1) := by decide +kernel
theorem dX4_copy_55 : decode cX4_copy 55 = .ok (.invokevirtual 64, 3) := by decide +kernel
theorem dX4_copy_58 : decode cX4_copy 58 = .ok (.ireturn, 1) := by decide +kernel
theorem dX4_copy_59 : decode cX4_copy 59 = .ok (.aload 6, 2) := by decide +kernel
theorem dX4_copy_61 : decode cX4_copy 61 = .ok (.getfield 199, 3) := by decide +kernel
theorem dX4_copy_64 : decode cX4_copy 64 = .ok (.aload 7, 2) := by decide +kernel
theorem dX4_copy_66 : decode cX4_copy 66 = .ok (.getfield 199, 3) := by decide +kernel
theorem dX4_copy_69 : decode cX4_copy 69 = .ok (.if_icmp .eq 9, 3) := by decide +kernel
theorem dX4_copy_72 : decode cX4_copy 72 = .ok (.aload_n 0, 1) := by decide +kernel
theorem dX4_copy_73 : decode cX4_copy 73 = .ok (.iconst 2, 1) := by decide +kernel
theorem dX4_copy_74 : decode cX4_copy 74 = .ok (.invokevirtual 64, 3) := by decide +kernel
theorem dX4_copy_77 : decode cX4_copy 77 = .ok (.ireturn, 1) := by decide +kernel
theorem dX4_copy_78 : decode cX4_copy 78 = .ok (.aload 6, 2) := by decide +kernel
theorem dX4_copy_80 : decode cX4_copy 80 = .ok (.iload_n 2, 1) := by decide +kernel
theorem dX4_copy_81 : decode cX4_copy 81 = .ok (.iload 5, 2) := by decide +kernel
theorem dX4_copy_83 : decode cX4_copy 83 = .ok (.invokevirtual 60, 3) := by decide +kernel
theorem dX4_copy_86 : decode cX4_copy 86 = .ok (.ifCond .eq 15, 3) := by decide +kernel
theorem dX4_copy_89 : decode cX4_copy 89 = .ok (.aload 7, 2) := by decide +kernel
theorem dX4_copy_91 : decode cX4_copy 91 = .ok (.iload 4, 2) := by decide +kernel
theorem dX4_copy_93 : decode cX4_copy 93 = .ok (.iload 5, 2) := by decide +kernel
theorem dX4_copy_95 : decode cX4_copy 95 = .ok (.invokevirtual 60, 3) := by decide +kernel
theorem dX4_copy_98 : decode cX4_copy 98 = .ok (.ifCond .ne 9, 3) := by decide +kernel
theorem dX4_copy_101 : decode cX4_copy 101 = .ok (.aload_n 0, 1) := by decide +kernel
theorem dX4_copy_102 : decode cX4_copy 102 = .ok (.iconst 3, 1) := by decide +kernel
theorem dX4_copy_103 : decode cX4_copy 103 = .ok (.invokevirtual 64, 3) := by decide +kernel
theorem dX4_copy_106 : decode cX4_copy 106 = .ok (.ireturn, 1) := by decide +kernel
theorem dX4_copy_107 : decode cX4_copy 107 = .ok (.aload 6, 2) := by decide +kernel
theorem dX4_copy_109 : decode cX4_copy 109 = .ok (.getfield 202, 3) := by decide +kernel
theorem dX4_copy_112 : decode cX4_copy 112 = .ok (.iload_n 2, 1) := by decide +kernel
theorem dX4_copy_113 : decode cX4_copy 113 = .ok (.aload 7, 2) := by decide +kernel
theorem dX4_copy_115 : decode cX4_copy 115 = .ok (.getfield 202, 3) := by decide +kernel
theorem dX4_copy_118 : decode cX4_copy 118 = .ok (.iload 4, 2) := by decide +kernel
theorem dX4_copy_120 : decode cX4_copy 120 = .ok (.iload 5, 2) := by decide +kernel
theorem dX4_copy_122 : decode cX4_copy 122 = .ok (.invokestatic 205, 3) := by decide +kernel
theorem dX4_copy_125 : decode cX4_copy 125 = .ok (.iload 5, 2) := by decide +kernel
theorem dX4_copy_127 : decode cX4_copy 127 = .ok (.ireturn, 1) := by decide +kernel
theorem dX4_tell_0 : decode cX4_tell 0 = .ok (.aload_n 0, 1) := by decide +kernel
theorem dX4_tell_1 : decode cX4_tell 1 = .ok (.getfield 12, 3) := by decide +kernel
theorem dX4_tell_4 : decode cX4_tell 4 = .ok (.iload_n 1, 1) := by decide +kernel
theorem dX4_tell_5 : decode cX4_tell 5 = .ok (.invokevirtual 81, 3) := by decide +kernel
theorem dX4_tell_8 : decode cX4_tell 8 = .ok (.ifCond .ne 5, 3) := by decide +kernel
theorem dX4_tell_11 : decode cX4_tell 11 = .ok (.iconst (-1), 1) := by decide +kernel
theorem dX4_tell_12 : decode cX4_tell 12 = .ok (.ireturn, 1) := by decide +kernel
theorem dX4_tell_13 : decode cX4_tell 13 = .ok (.aload_n 0, 1) := by decide +kernel
theorem dX4_tell_14 : decode cX4_tell 14 = .ok (.getfield 12, 3) := by decide +kernel
theorem dX4_tell_17 : decode cX4_tell 17 = .ok (.getfield 84, 3) := by decide +kernel
theorem dX4_tell_20 : decode cX4_tell 20 = .ok (.iload_n 1, 1) := by decide +kernel
theorem dX4_tell_21 : decode cX4_tell 21 = .ok (.iaload, 1) := by decide +kernel
theorem dX4_tell_22 : decode cX4_tell 22 = .ok (.lookupswitch 38 #[(1, 26), (2, 32)], 26) := by decide +kernel
theorem dX4_tell_48 : decode cX4_tell 48 = .ok (.aload_n 0, 1) := by decide +kernel
theorem dX4_tell_49 : decode cX4_tell 49 = .ok (.iload_n 1, 1) := by decide +kernel
theorem dX4_tell_50 : decode cX4_tell 50 = .ok (.invokevirtual 211, 3) := by decide +kernel
theorem dX4_tell_53 : decode cX4_tell 53 = .ok (.ireturn, 1) := by decide +kernel
theorem dX4_tell_54 : decode cX4_tell 54 = .ok (.aload_n 0, 1) := by decide +kernel
theorem dX4_tell_55 : decode cX4_tell 55 = .ok (.iload_n 1, 1) := by decide +kernel
theorem dX4_tell_56 : decode cX4_tell 56 = .ok (.invokevirtual 214, 3) := by decide +kernel
theorem dX4_tell_59 : decode cX4_tell 59 = .ok (.ireturn, 1) := by decide +kernel
theorem dX4_tell_60 : decode cX4_tell 60 = .ok (.aload_n 0, 1) := by decide +kernel
theorem dX4_tell_61 : decode cX4_tell 61 = .ok (.iload_n 1, 1) := by decide +kernel
theorem dX4_tell_62 : decode cX4_tell 62 = .ok (.invokevirtual 217, 3) := by decide +kernel
theorem dX4_tell_65 : decode cX4_tell 65 = .ok (.ireturn, 1) := by decide +kernel
theorem dX4_draw_0 : decode cX4_draw 0 = .ok (.aload_n 0, 1) := by decide +kernel
theorem dX4_draw_1 : decode cX4_draw 1 = .ok (.getfield 12, 3) := by decide +kernel
theorem dX4_draw_4 : decode cX4_draw 4 = .ok (.iload_n 1, 1) := by decide +kernel
theorem dX4_draw_5 : decode cX4_draw 5 = .ok (.invokevirtual 81, 3) := by decide +kernel
theorem dX4_draw_8 : decode cX4_draw 8 = .ok (.ifCond .ne 5, 3) := by decide +kernel
theorem dX4_draw_11 : decode cX4_draw 11 = .ok (.iconst (-1), 1) := by decide +kernel
theorem dX4_draw_12 : decode cX4_draw 12 = .ok (.ireturn, 1) := by decide +kernel
theorem dX4_draw_13 : decode cX4_draw 13 = .ok (.aload_n 0, 1) := by decide +kernel
theorem dX4_draw_14 : decode cX4_draw 14 = .ok (.getfield 12, 3) := by decide +kernel
theorem dX4_draw_17 : decode cX4_draw 17 = .ok (.getfield 84, 3) := by decide +kernel
theorem dX4_draw_20 : decode cX4_draw 20 = .ok (.iload_n 1, 1) := by decide +kernel
theorem dX4_draw_21 : decode cX4_draw 21 = .ok (.iaload, 1) := by decide +kernel
theorem dX4_draw_22 : decode cX4_draw 22 = .ok (.iconst 2, 1) := by decide +kernel
theorem dX4_draw_23 : decode cX4_draw 23 = .ok (.if_icmp .ne 11, 3) := by decide +kernel
theorem dX4_draw_26 : decode cX4_draw 26 = .ok (.aload_n 0, 1) := by decide +kernel
theorem dX4_draw_27 : decode cX4_draw 27 = .ok (.iconst 5, 1) := by decide +kernel
theorem dX4_draw_28 : decode cX4_draw 28 = .ok (.invokevirtual 220, 3) := by decide +kernel
theorem dX4_draw_31 : decode cX4_draw 31 = .ok (.bipush 80, 2) := by decide +kernel
theorem dX4_draw_33 : decode cX4_draw 33 = .ok (.ireturn, 1) := by decide +kernel
theorem dX4_draw_34 : decode cX4_draw 34 = .ok (.aload_n 0, 1) := by decide +kernel
theorem dX4_draw_35 : decode cX4_draw 35 = .ok (.iconst 4, 1) := by decide +kernel
theorem dX4_draw_36 : decode cX4_draw 36 = .ok (.invokevirtual 220, 3) := by decide +kernel
theorem dX4_draw_39 : decode cX4_draw 39 = .ok (.iload_n 1, 1) := by decide +kernel
theorem dX4_draw_40 : decode cX4_draw 40 = .ok (.ireturn, 1) := by decide +kernel
theorem dX4_as_0 : decode cX4_as 0 = .ok (.aload_n 0, 1) := by decide +kernel
theorem dX4_as_1 : decode cX4_as 1 = .ok (.iconst 0, 1) := by decide +kernel
theorem dX4_as_2 : decode cX4_as 2 = .ok (.putfield 46, 3) := by decide +kernel
theorem dX4_as_5 : decode cX4_as 5 = .ok (.aload_n 0, 1) := by decide +kernel
theorem dX4_as_6 : decode cX4_as 6 = .ok (.getfield 12, 3) := by decide +kernel
theorem dX4_as_9 : decode cX4_as 9 = .ok (.iload_n 1, 1) := by decide +kernel
theorem dX4_as_10 : decode cX4_as 10 = .ok (.invokevirtual 81, 3) := by decide +kernel
theorem dX4_as_13 : decode cX4_as 13 = .ok (.ifCond .ne 5, 3) := by decide +kernel
theorem dX4_as_16 : decode cX4_as 16 = .ok (.iconst (-1), 1) := by decide +kernel
theorem dX4_as_17 : decode cX4_as 17 = .ok (.ireturn, 1) := by decide +kernel
theorem dX4_as_18 : decode cX4_as 18 = .ok (.iload_n 2, 1) := by decide +kernel
theorem dX4_as_19 : decode cX4_as 19 = .ok (.iconst 0, 1) := by decide +kernel
theorem dX4_as_20 : decode cX4_as 20 = .ok (.iconst 2, 1) := by decide +kernel
theorem dX4_as_21 : decode cX4_as 21 = .ok (.invokestatic 107, 3) := by decide +kernel
theorem dX4_as_24 : decode cX4_as 24 = .ok (.ifCond .ne 6, 3) := by decide +kernel
theorem dX4_as_27 : decode cX4_as 27 = .ok (.bipush (-2), 2) := by decide +kernel
theorem dX4_as_29 : decode cX4_as 29 = .ok (.ireturn, 1) := by decide +kernel
theorem dX4_as_30 : decode cX4_as 30 = .ok (.aload_n 0, 1) := by decide +kernel
theorem dX4_as_31 : decode cX4_as 31 = .ok (.getfield 12, 3) := by decide +kernel
theorem dX4_as_34 : decode cX4_as 34 = .ok (.getfield 84, 3) := by decide +kernel
theorem dX4_as_37 : decode cX4_as 37 = .ok (.iload_n 1, 1) := by decide +kernel
theorem dX4_as_38 : decode cX4_as 38 = .ok (.iaload, 1) := by decide +kernel
theorem dX4_as_39 : decode cX4_as 39 = .ok (.iload_n 2, 1) := by decide +kernel
theorem dX4_as_40 : decode cX4_as 40 = .ok (.if_icmp .ge 9, 3) := by decide +kernel
theorem dX4_as_43 : decode cX4_as 43 = .ok (.aload_n 0, 1) := by decide +kernel
theorem dX4_as_44 : decode cX4_as 44 = .ok (.iconst 2, 1) := by decide +kernel
theorem dX4_as_45 : decode cX4_as 45 = .ok (.invokevirtual 64, 3) := by decide +kernel
theorem dX4_as_48 : decode cX4_as 48 = .ok (.ireturn, 1) := by decide +kernel
theorem dX4_as_49 : decode cX4_as 49 = .ok (.iconst 1, 1) := by decide +kernel
theorem dX4_as_50 : decode cX4_as 50 = .ok (.ireturn, 1) := by decide +kernel
theorem dX4_trace_0 : decode cX4_trace 0 = .ok (.aload_n 0, 1) := by decide +kernel
theorem dX4_trace_1 : decode cX4_trace 1 = .ok (.getfield 43, 3) := by decide +kernel
theorem dX4_trace_4 : decode cX4_trace 4 = .ok (.ireturn, 1) := by decide +kernel
theorem dX4_fault_0 : decode cX4_fault 0 = .ok (.aload_n 0, 1) := by decide +kernel
theorem dX4_fault_1 : decode cX4_fault 1 = .ok (.getfield 46, 3) := by decide +kernel
theorem dX4_fault_4 : decode cX4_fault 4 = .ok (.ireturn, 1) := by decide +kernel
theorem dX4_many_0 : decode cX4_many 0 = .ok (.iload_n 1, 1) := by decide +kernel
theorem dX4_many_1 : decode cX4_many 1 = .ok (.tableswitch 87 0 5 #[39, 47, 55, 63, 68, 79], 39) := by decide +kernel
theorem dX4_many_40 : decode cX4_many 40 = .ok (.aload_n 0, 1) := by decide +kernel
theorem dX4_many_41 : decode cX4_many 41 = .ok (.getfield 12, 3) := by decide +kernel
theorem dX4_many_44 : decode cX4_many 44 = .ok (.getfield 223, 3) := by decide +kernel
theorem dX4_many_47 : decode cX4_many 47 = .ok (.ireturn, 1) := by decide +kernel
theorem dX4_many_48 : decode cX4_many 48 = .ok (.aload_n 0, 1) := by decide +kernel
theorem dX4_many_49 : decode cX4_many 49 = .ok (.getfield 12, 3) := by decide +kernel
theorem dX4_many_52 : decode cX4_many 52 = .ok (.getfield 226, 3) := by decide +kernel
theorem dX4_many_55 : decode cX4_many 55 = .ok (.ireturn, 1) := by decide +kernel
theorem dX4_many_56 : decode cX4_many 56 = .ok (.aload_n 0, 1) := by decide +kernel
theorem dX4_many_57 : decode cX4_many 57 = .ok (.getfield 12, 3) := by decide +kernel
theorem dX4_many_60 : decode cX4_many 60 = .ok (.getfield 115, 3) := by decide +kernel
theorem dX4_many_63 : decode cX4_many 63 = .ok (.ireturn, 1) := by decide +kernel
theorem dX4_many_64 : decode cX4_many 64 = .ok (.aload_n 0, 1) := by decide +kernel
theorem dX4_many_65 : decode cX4_many 65 = .ok (.getfield 39, 3) := by decide +kernel
theorem dX4_many_68 : decode cX4_many 68 = .ok (.ireturn, 1) := by decide +kernel
theorem dX4_many_69 : decode cX4_many 69 = .ok (.aload_n 0, 1) := by decide +kernel
theorem dX4_many_70 : decode cX4_many 70 = .ok (.getfield 12, 3) := by decide +kernel
theorem dX4_many_73 : decode cX4_many 73 = .ok (.invokevirtual 122, 3) := by decide +kernel
theorem dX4_many_76 : decode cX4_many 76 = .ok (.invokestatic 102, 3) := by decide +kernel
theorem dX4_many_79 : decode cX4_many 79 = .ok (.ireturn, 1) := by decide +kernel
theorem dX4_many_80 : decode cX4_many 80 = .ok (.aload_n 0, 1) := by decide +kernel
theorem dX4_many_81 : decode cX4_many 81 = .ok (.getfield 28, 3) := by decide +kernel
theorem dX4_many_84 : decode cX4_many 84 = .ok (.getfield 75, 3) := by decide +kernel
theorem dX4_many_87 : decode cX4_many 87 = .ok (.ireturn, 1) := by decide +kernel
theorem dX4_many_88 : decode cX4_many 88 = .ok (.bipush (-2), 2) := by decide +kernel
theorem dX4_many_90 : decode cX4_many 90 = .ok (.ireturn, 1) := by decide +kernel
theorem dX4_within_0 : decode cX4_within 0 = .ok (.iload_n 0, 1) := by decide +kernel
theorem dX4_within_1 : decode cX4_within 1 = .ok (.iload_n 1, 1) := by decide +kernel
theorem dX4_within_2 : decode cX4_within 2 = .ok (.if_icmp .lt 12, 3) := by decide +kernel
theorem dX4_within_5 : decode cX4_within 5 = .ok (.iload_n 0, 1) := by decide +kernel
theorem dX4_within_6 : decode cX4_within 6 = .ok (.iload_n 2, 1) := by decide +kernel
theorem dX4_within_7 : decode cX4_within 7 = .ok (.if_icmp .gt 7, 3) := by decide +kernel
theorem dX4_within_10 : decode cX4_within 10 = .ok (.iconst 1, 1) := by decide +kernel
theorem dX4_within_11 : decode cX4_within 11 = .ok (.goto 4, 3) := by decide +kernel
theorem dX4_within_14 : decode cX4_within 14 = .ok (.iconst 0, 1) := by decide +kernel
theorem dX4_within_15 : decode cX4_within 15 = .ok (.ireturn, 1) := by decide +kernel
theorem dX4_isSheet_0 : decode cX4_isSheet 0 = .ok (.iload_n 0, 1) := by decide +kernel
theorem dX4_isSheet_1 : decode cX4_isSheet 1 = .ok (.iconst 0, 1) := by decide +kernel
theorem dX4_isSheet_2 : decode cX4_isSheet 2 = .ok (.iconst 3, 1) := by decide +kernel
theorem dX4_isSheet_3 : decode cX4_isSheet 3 = .ok (.invokestatic 107, 3) := by decide +kernel
theorem dX4_isSheet_6 : decode cX4_isSheet 6 = .ok (.ireturn, 1) := by decide +kernel
theorem dX4_isLane_0 : decode cX4_isLane 0 = .ok (.iload_n 0, 1) := by decide +kernel
theorem dX4_isLane_1 : decode cX4_isLane 1 = .ok (.iconst 0, 1) := by decide +kernel
theorem dX4_isLane_2 : decode cX4_isLane 2 = .ok (.iconst 2, 1) := by decide +kernel
theorem dX4_isLane_3 : decode cX4_isLane 3 = .ok (.invokestatic 107, 3) := by decide +kernel
theorem dX4_isLane_6 : decode cX4_isLane 6 = .ok (.ireturn, 1) := by decide +kernel
theorem dX4_faulted_0 : decode cX4_faulted 0 = .ok (.aload_n 0, 1) := by decide +kernel
theorem dX4_faulted_1 : decode cX4_faulted 1 = .ok (.iload_n 1, 1) := by decide +kernel
theorem dX4_faulted_2 : decode cX4_faulted 2 = .ok (.putfield 46, 3) := by decide +kernel
theorem dX4_faulted_5 : decode cX4_faulted 5 = .ok (.bipush (-10), 2) := by decide +kernel
theorem dX4_faulted_7 : decode cX4_faulted 7 = .ok (.iload_n 1, 1) := by decide +kernel
theorem dX4_faulted_8 : decode cX4_faulted 8 = .ok (.isub, 1) := by decide +kernel
theorem dX4_faulted_9 : decode cX4_faulted 9 = .ok (.ireturn, 1) := by decide +kernel
theorem dX4_leave_0 : decode cX4_leave 0 = .ok (.aload_n 0, 1) := by decide +kernel
theorem dX4_leave_1 : decode cX4_leave 1 = .ok (.bipush 31, 2) := by decide +kernel
theorem dX4_leave_3 : decode cX4_leave 3 = .ok (.aload_n 0, 1) := by decide +kernel
theorem dX4_leave_4 : decode cX4_leave 4 = .ok (.getfield 43, 3) := by decide +kernel
theorem dX4_leave_7 : decode cX4_leave 7 = .ok (.imul, 1) := by decide +kernel
theorem dX4_leave_8 : decode cX4_leave 8 = .ok (.iload_n 1, 1) := by decide +kernel
theorem dX4_leave_9 : decode cX4_leave 9 = .ok (.iadd, 1) := by decide +kernel
theorem dX4_leave_10 : decode cX4_leave 10 = .ok (.putfield 43, 3) := by decide +kernel
theorem dX4_leave_13 : decode cX4_leave 13 = .ok (.return_, 1) := by decide +kernel
theorem dX4_tellingOfMud_0 : decode cX4_tellingOfMud 0 = .ok (.aload_n 0, 1) := by decide +kernel
theorem dX4_tellingOfMud_1 : decode cX4_tellingOfMud 1 = .ok (.iconst 1, 1) := by decide +kernel
theorem dX4_tellingOfMud_2 : decode cX4_tellingOfMud 2 = .ok (.invokevirtual 220, 3) := by decide +kernel
theorem dX4_tellingOfMud_5 : decode cX4_tellingOfMud 5 = .ok (.aload_n 0, 1) := by decide +kernel
theorem dX4_tellingOfMud_6 : decode cX4_tellingOfMud 6 = .ok (.getfield 12, 3) := by decide +kernel
theorem dX4_tellingOfMud_9 : decode cX4_tellingOfMud 9 = .ok (.getfield 88, 3) := by decide +kernel
theorem dX4_tellingOfMud_12 : decode cX4_tellingOfMud 12 = .ok (.iload_n 1, 1) := by decide +kernel
theorem dX4_tellingOfMud_13 : decode cX4_tellingOfMud 13 = .ok (.iaload, 1) := by decide +kernel
theorem dX4_tellingOfMud_14 : decode cX4_tellingOfMud 14 = .ok (.ireturn, 1) := by decide +kernel
theorem dX4_tellingOfSand_0 : decode cX4_tellingOfSand 0 = .ok (.aload_n 0, 1) := by decide +kernel
theorem dX4_tellingOfSand_1 : decode cX4_tellingOfSand 1 = .ok (.iconst 2, 1) := by decide +kernel
theorem dX4_tellingOfSand_2 : decode cX4_tellingOfSand 2 = .ok (.invokevirtual 220, 3) := by decide +kernel
theorem dX4_tellingOfSand_5 : decode cX4_tellingOfSand 5 = .ok (.aload_n 0, 1) := by decide +kernel
theorem dX4_tellingOfSand_6 : decode cX4_tellingOfSand 6 = .ok (.iload_n 1, 1) := by decide +kernel
theorem dX4_tellingOfSand_7 : decode cX4_tellingOfSand 7 = .ok (.invokevirtual 217, 3) := by decide +kernel
theorem dX4_tellingOfSand_10 : decode cX4_tellingOfSand 10 = .ok (.bipush 100, 2) := by decide +kernel
theorem dX4_tellingOfSand_12 : decode cX4_tellingOfSand 12 = .ok (.iadd, 1) := by decide +kernel
theorem dX4_tellingOfSand_13 : decode cX4_tellingOfSand 13 = .ok (.ireturn, 1) := by decide +kernel
theorem dX4_tellingOfClay_0 : decode cX4_tellingOfClay 0 = .ok (.aload_n 0, 1) := by decide +kernel
theorem dX4_tellingOfClay_1 : decode cX4_tellingOfClay 1 = .ok (.iconst 3, 1) := by decide +kernel
theorem dX4_tellingOfClay_2 : decode cX4_tellingOfClay 2 = .ok (.invokevirtual 220, 3) := by decide +kernel
theorem dX4_tellingOfClay_5 : decode cX4_tellingOfClay 5 = .ok (.aload_n 0, 1) := by decide +kernel
theorem dX4_tellingOfClay_6 : decode cX4_tellingOfClay 6 = .ok (.iload_n 1, 1) := by decide +kernel
theorem dX4_tellingOfClay_7 : decode cX4_tellingOfClay 7 = .ok (.invokevirtual 211, 3) := by decide +kernel
theorem dX4_tellingOfClay_10 : decode cX4_tellingOfClay 10 = .ok (.istore_n 2, 1) := by decide +kernel
theorem dX4_tellingOfClay_11 : decode cX4_tellingOfClay 11 = .ok (.iload_n 2, 1) := by decide +kernel
theorem dX4_tellingOfClay_12 : decode cX4_tellingOfClay 12 = .ok (.aload_n 0, 1) := by decide +kernel
theorem dX4_tellingOfClay_13 : decode cX4_tellingOfClay 13 = .ok (.iload_n 1, 1) := by decide +kernel
theorem dX4_tellingOfClay_14 : decode cX4_tellingOfClay 14 = .ok (.invokevirtual 217, 3) := by decide +kernel
theorem dX4_tellingOfClay_17 : decode cX4_tellingOfClay 17 = .ok (.iadd, 1) := by decide +kernel
theorem dX4_tellingOfClay_18 : decode cX4_tellingOfClay 18 = .ok (.ireturn, 1) := by decide +kernel
theorem dX4_refusalOfPairs_0 : decode cX4_refusalOfPairs 0 = .ok (.iconst 0, 1) := by decide +kernel
theorem dX4_refusalOfPairs_1 : decode cX4_refusalOfPairs 1 = .ok (.istore 4, 2) := by decide +kernel
theorem dX4_refusalOfPairs_3 : decode cX4_refusalOfPairs 3 = .ok (.iload 4, 2) := by decide +kernel
theorem dX4_refusalOfPairs_5 : decode cX4_refusalOfPairs 5 = .ok (.iload_n 3, 1) := by decide +kernel
theorem dX4_refusalOfPairs_6 : decode cX4_refusalOfPairs 6 = .ok (.if_icmp .ge 107, 3) := by decide +kernel
theorem dX4_refusalOfPairs_9 : decode cX4_refusalOfPairs 9 = .ok (.aload_n 1, 1) := by decide +kernel
theorem dX4_refusalOfPairs_10 : decode cX4_refusalOfPairs 10 = .ok (.iload_n 2, 1) := by decide +kernel
theorem dX4_refusalOfPairs_11 : decode cX4_refusalOfPairs 11 = .ok (.iconst 2, 1) := by decide +kernel
theorem dX4_refusalOfPairs_12 : decode cX4_refusalOfPairs 12 = .ok (.iload 4, 2) := by decide +kernel
theorem dX4_refusalOfPairs_14 : decode cX4_refusalOfPairs 14 = .ok (.imul, 1) := by decide +kernel
theorem dX4_refusalOfPairs_15 : decode cX4_refusalOfPairs 15 = .ok (.iadd, 1) := by decide +kernel
theorem dX4_refusalOfPairs_16 : decode cX4_refusalOfPairs 16 = .ok (.invokevirtual 196, 3) := by decide +kernel
theorem dX4_refusalOfPairs_19 : decode cX4_refusalOfPairs 19 = .ok (.istore 5, 2) := by decide +kernel
theorem dX4_refusalOfPairs_21 : decode cX4_refusalOfPairs 21 = .ok (.aload_n 1, 1) := by decide +kernel
theorem dX4_refusalOfPairs_22 : decode cX4_refusalOfPairs 22 = .ok (.iload_n 2, 1) := by decide +kernel
theorem dX4_refusalOfPairs_23 : decode cX4_refusalOfPairs 23 = .ok (.iconst 2, 1) := by decide +kernel
theorem dX4_refusalOfPairs_24 : decode cX4_refusalOfPairs 24 = .ok (.iload 4, 2) := by decide +kernel
theorem dX4_refusalOfPairs_26 : decode cX4_refusalOfPairs 26 = .ok (.imul, 1) := by decide +kernel
theorem dX4_refusalOfPairs_27 : decode cX4_refusalOfPairs 27 = .ok (.iadd, 1) := by decide +kernel
theorem dX4_refusalOfPairs_28 : decode cX4_refusalOfPairs 28 = .ok (.iconst 1, 1) := by decide +kernel
theorem dX4_refusalOfPairs_29 : decode cX4_refusalOfPairs 29 = .ok (.iadd, 1) := by decide +kernel
theorem dX4_refusalOfPairs_30 : decode cX4_refusalOfPairs 30 = .ok (.invokevirtual 196, 3) := by decide +kernel
theorem dX4_refusalOfPairs_33 : decode cX4_refusalOfPairs 33 = .ok (.istore 6, 2) := by decide +kernel
theorem dX4_refusalOfPairs_35 : decode cX4_refusalOfPairs 35 = .ok (.iload 5, 2) := by decide +kernel
theorem dX4_refusalOfPairs_37 : decode cX4_refusalOfPairs 37 = .ok (.iconst 0, 1) := by decide +kernel
theorem dX4_refusalOfPairs_38 : decode cX4_refusalOfPairs 38 = .ok (.iconst 2, 1) := by decide +kernel
theorem dX4_refusalOfPairs_39 : decode cX4_refusalOfPairs 39 = .ok (.invokestatic 107, 3) := by decide +kernel
theorem dX4_refusalOfPairs_42 : decode cX4_refusalOfPairs 42 = .ok (.ifCond .ne 6, 3) := by decide +kernel
theorem dX4_refusalOfPairs_45 : decode cX4_refusalOfPairs 45 = .ok (.bipush (-2), 2) := by decide +kernel
theorem dX4_refusalOfPairs_47 : decode cX4_refusalOfPairs 47 = .ok (.ireturn, 1) := by decide +kernel
theorem dX4_refusalOfPairs_48 : decode cX4_refusalOfPairs 48 = .ok (.iload 5, 2) := by decide +kernel
theorem dX4_refusalOfPairs_50 : decode cX4_refusalOfPairs 50 = .ok (.ifCond .ne 17, 3) := by decide +kernel
theorem dX4_refusalOfPairs_53 : decode cX4_refusalOfPairs 53 = .ok (.iload 6, 2) := by decide +kernel
theorem dX4_refusalOfPairs_55 : decode cX4_refusalOfPairs 55 = .ok (.iconst 0, 1) := by decide +kernel
theorem dX4_refusalOfPairs_56 : decode cX4_refusalOfPairs 56 = .ok (.bipush 9, 2) := by decide +kernel
theorem dX4_refusalOfPairs_58 : decode cX4_refusalOfPairs 58 = .ok (.invokestatic 107, 3) := by decide +kernel
theorem dX4_refusalOfPairs_61 : decode cX4_refusalOfPairs 61 = .ok (.ifCond .ne 6, 3) := by decide +kernel
theorem dX4_refusalOfPairs_64 : decode cX4_refusalOfPairs 64 = .ok (.bipush (-2), 2) := by decide +kernel
theorem dX4_refusalOfPairs_66 : decode cX4_refusalOfPairs 66 = .ok (.ireturn, 1) := by decide +kernel
theorem dX4_refusalOfPairs_67 : decode cX4_refusalOfPairs 67 = .ok (.iload 5, 2) := by decide +kernel
theorem dX4_refusalOfPairs_69 : decode cX4_refusalOfPairs 69 = .ok (.iconst 2, 1) := by decide +kernel
theorem dX4_refusalOfPairs_70 : decode cX4_refusalOfPairs 70 = .ok (.if_icmp .ne 17, 3) := by decide +kernel
theorem dX4_refusalOfPairs_73 : decode cX4_refusalOfPairs 73 = .ok (.iload 6, 2) := by decide +kernel
theorem dX4_refusalOfPairs_75 : decode cX4_refusalOfPairs 75 = .ok (.iconst 0, 1) := by decide +kernel
theorem dX4_refusalOfPairs_76 : decode cX4_refusalOfPairs 76 = .ok (.bipush 9, 2) := by decide +kernel
theorem dX4_refusalOfPairs_78 : decode cX4_refusalOfPairs 78 = .ok (.invokestatic 107, 3) := by decide +kernel
theorem dX4_refusalOfPairs_81 : decode cX4_refusalOfPairs 81 = .ok (.ifCond .ne 6, 3) := by decide +kernel
theorem dX4_refusalOfPairs_84 : decode cX4_refusalOfPairs 84 = .ok (.bipush (-2), 2) := by decide +kernel
theorem dX4_refusalOfPairs_86 : decode cX4_refusalOfPairs 86 = .ok (.ireturn, 1) := by decide +kernel
theorem dX4_refusalOfPairs_87 : decode cX4_refusalOfPairs 87 = .ok (.iload 5, 2) := by decide +kernel
theorem dX4_refusalOfPairs_89 : decode cX4_refusalOfPairs 89 = .ok (.iconst 1, 1) := by decide +kernel
theorem dX4_refusalOfPairs_90 : decode cX4_refusalOfPairs 90 = .ok (.if_icmp .ne 17, 3) := by decide +kernel
theorem dX4_refusalOfPairs_93 : decode cX4_refusalOfPairs 93 = .ok (.aload_n 0, 1) := by decide +kernel
theorem dX4_refusalOfPairs_94 : decode cX4_refusalOfPairs 94 = .ok (.getfield 12, 3) := by decide +kernel
theorem dX4_refusalOfPairs_97 : decode cX4_refusalOfPairs 97 = .ok (.iload 6, 2) := by decide +kernel
theorem dX4_refusalOfPairs_99 : decode cX4_refusalOfPairs 99 = .ok (.invokevirtual 81, 3) := by decide +kernel
theorem dX4_refusalOfPairs_102 : decode cX4_refusalOfPairs 102 = .ok (.ifCond .ne 5, 3) := by decide +kernel
theorem dX4_refusalOfPairs_105 : decode cX4_refusalOfPairs 105 = .ok (.iconst (-1), 1) := by decide +kernel
theorem dX4_refusalOfPairs_106 : decode cX4_refusalOfPairs 106 = .ok (.ireturn, 1) := by decide +kernel
theorem dX4_refusalOfPairs_107 : decode cX4_refusalOfPairs 107 = .ok (.iinc 4 1, 3) := by decide +kernel
theorem dX4_refusalOfPairs_110 : decode cX4_refusalOfPairs 110 = .ok (.goto (-107), 3) := by decide +kernel
theorem dX4_refusalOfPairs_113 : decode cX4_refusalOfPairs 113 = .ok (.iconst 0, 1) := by decide +kernel
theorem dX4_refusalOfPairs_114 : decode cX4_refusalOfPairs 114 = .ok (.ireturn, 1) := by decide +kernel
theorem dX4_firstFault_0 : decode cX4_firstFault 0 = .ok (.iconst 0, 1) := by decide +kernel
theorem dX4_firstFault_1 : decode cX4_firstFault 1 = .ok (.istore_n 3, 1) := by decide +kernel
theorem dX4_firstFault_2 : decode cX4_firstFault 2 = .ok (.iload_n 3, 1) := by decide +kernel
theorem dX4_firstFault_3 : decode cX4_firstFault 3 = .ok (.iload_n 2, 1) := by decide +kernel
theorem dX4_firstFault_4 : decode cX4_firstFault 4 = .ok (.if_icmp .ge 20, 3) := by decide +kernel
theorem dX4_firstFault_7 : decode cX4_firstFault 7 = .ok (.aload_n 0, 1) := by decide +kernel
theorem dX4_firstFault_8 : decode cX4_firstFault 8 = .ok (.iload_n 1, 1) := by decide +kernel
theorem dX4_firstFault_9 : decode cX4_firstFault 9 = .ok (.iload_n 3, 1) := by decide +kernel
theorem dX4_firstFault_10 : decode cX4_firstFault 10 = .ok (.invokestatic 229, 3) := by decide +kernel
theorem dX4_firstFault_13 : decode cX4_firstFault 13 = .ok (.ifCond .ne 5, 3) := by decide +kernel
theorem dX4_firstFault_16 : decode cX4_firstFault 16 = .ok (.iload_n 3, 1) := by decide +kernel
theorem dX4_firstFault_17 : decode cX4_firstFault 17 = .ok (.ireturn, 1) := by decide +kernel
theorem dX4_firstFault_18 : decode cX4_firstFault 18 = .ok (.iinc 3 1, 3) := by decide +kernel
theorem dX4_firstFault_21 : decode cX4_firstFault 21 = .ok (.goto (-19), 3) := by decide +kernel
theorem dX4_firstFault_24 : decode cX4_firstFault 24 = .ok (.iload_n 2, 1) := by decide +kernel
theorem dX4_firstFault_25 : decode cX4_firstFault 25 = .ok (.iconst 4, 1) := by decide +kernel
theorem dX4_firstFault_26 : decode cX4_firstFault 26 = .ok (.if_icmp .lt 17, 3) := by decide +kernel
theorem dX4_firstFault_29 : decode cX4_firstFault 29 = .ok (.iload_n 2, 1) := by decide +kernel
theorem dX4_firstFault_30 : decode cX4_firstFault 30 = .ok (.aload_n 0, 1) := by decide +kernel
theorem dX4_firstFault_31 : decode cX4_firstFault 31 = .ok (.iload_n 1, 1) := by decide +kernel
theorem dX4_firstFault_32 : decode cX4_firstFault 32 = .ok (.invokestatic 233, 3) := by decide +kernel
theorem dX4_firstFault_35 : decode cX4_firstFault 35 = .ok (.if_icmp .ne 8, 3) := by decide +kernel
theorem dX4_firstFault_38 : decode cX4_firstFault 38 = .ok (.bipush (-9), 2) := by decide +kernel
theorem dX4_firstFault_40 : decode cX4_firstFault 40 = .ok (.goto 4, 3) := by decide +kernel
theorem dX4_firstFault_43 : decode cX4_firstFault 43 = .ok (.iload_n 2, 1) := by decide +kernel
theorem dX4_firstFault_44 : decode cX4_firstFault 44 = .ok (.ireturn, 1) := by decide +kernel
theorem dX4_goesOn_0 : decode cX4_goesOn 0 = .ok (.aload_n 0, 1) := by decide +kernel
theorem dX4_goesOn_1 : decode cX4_goesOn 1 = .ok (.iload_n 1, 1) := by decide +kernel
theorem dX4_goesOn_2 : decode cX4_goesOn 2 = .ok (.iload_n 2, 1) := by decide +kernel
theorem dX4_goesOn_3 : decode cX4_goesOn 3 = .ok (.iadd, 1) := by decide +kernel
theorem dX4_goesOn_4 : decode cX4_goesOn 4 = .ok (.invokevirtual 196, 3) := by decide +kernel
theorem dX4_goesOn_7 : decode cX4_goesOn 7 = .ok (.istore_n 3, 1) := by decide +kernel
theorem dX4_goesOn_8 : decode cX4_goesOn 8 = .ok (.iload_n 2, 1) := by decide +kernel
theorem dX4_goesOn_9 : decode cX4_goesOn 9 = .ok (.tableswitch 70 0 3 #[31, 43, 52, 61], 31) := by decide +kernel
theorem dX4_goesOn_40 : decode cX4_goesOn 40 = .ok (.iload_n 3, 1) := by decide +kernel
theorem dX4_goesOn_41 : decode cX4_goesOn 41 = .ok (.bipush 98, 2) := by decide +kernel
theorem dX4_goesOn_43 : decode cX4_goesOn 43 = .ok (.if_icmp .ne 7, 3) := by decide +kernel
theorem dX4_goesOn_46 : decode cX4_goesOn 46 = .ok (.iconst 1, 1) := by decide +kernel
theorem dX4_goesOn_47 : decode cX4_goesOn 47 = .ok (.goto 4, 3) := by decide +kernel
theorem dX4_goesOn_50 : decode cX4_goesOn 50 = .ok (.iconst 0, 1) := by decide +kernel
theorem dX4_goesOn_51 : decode cX4_goesOn 51 = .ok (.ireturn, 1) := by decide +kernel
theorem dX4_goesOn_52 : decode cX4_goesOn 52 = .ok (.iload_n 3, 1) := by decide +kernel
theorem dX4_goesOn_53 : decode cX4_goesOn 53 = .ok (.bipush 48, 2) := by decide +kernel
theorem dX4_goesOn_55 : decode cX4_goesOn 55 = .ok (.bipush 57, 2) := by decide +kernel
theorem dX4_goesOn_57 : decode cX4_goesOn 57 = .ok (.invokestatic 107, 3) := by decide +kernel
theorem dX4_goesOn_60 : decode cX4_goesOn 60 = .ok (.ireturn, 1) := by decide +kernel
theorem dX4_goesOn_61 : decode cX4_goesOn 61 = .ok (.iload_n 3, 1) := by decide +kernel
theorem dX4_goesOn_62 : decode cX4_goesOn 62 = .ok (.bipush 50, 2) := by decide +kernel
theorem dX4_goesOn_64 : decode cX4_goesOn 64 = .ok (.bipush 52, 2) := by decide +kernel
theorem dX4_goesOn_66 : decode cX4_goesOn 66 = .ok (.invokestatic 107, 3) := by decide +kernel
theorem dX4_goesOn_69 : decode cX4_goesOn 69 = .ok (.ireturn, 1) := by decide +kernel
theorem dX4_goesOn_70 : decode cX4_goesOn 70 = .ok (.iload_n 3, 1) := by decide +kernel
theorem dX4_goesOn_71 : decode cX4_goesOn 71 = .ok (.bipush 50, 2) := by decide +kernel
theorem dX4_goesOn_73 : decode cX4_goesOn 73 = .ok (.bipush 51, 2) := by decide +kernel
theorem dX4_goesOn_75 : decode cX4_goesOn 75 = .ok (.invokestatic 107, 3) := by decide +kernel
theorem dX4_goesOn_78 : decode cX4_goesOn 78 = .ok (.ireturn, 1) := by decide +kernel
theorem dX4_goesOn_79 : decode cX4_goesOn 79 = .ok (.iload_n 2, 1) := by decide +kernel
theorem dX4_goesOn_80 : decode cX4_goesOn 80 = .ok (.aload_n 0, 1) := by decide +kernel
theorem dX4_goesOn_81 : decode cX4_goesOn 81 = .ok (.iload_n 1, 1) := by decide +kernel
theorem dX4_goesOn_82 : decode cX4_goesOn 82 = .ok (.invokestatic 233, 3) := by decide +kernel
theorem dX4_goesOn_85 : decode cX4_goesOn 85 = .ok (.if_icmp .lt 5, 3) := by decide +kernel
theorem dX4_goesOn_88 : decode cX4_goesOn 88 = .ok (.iconst 0, 1) := by decide +kernel
theorem dX4_goesOn_89 : decode cX4_goesOn 89 = .ok (.ireturn, 1) := by decide +kernel
theorem dX4_goesOn_90 : decode cX4_goesOn 90 = .ok (.iload_n 2, 1) := by decide +kernel
theorem dX4_goesOn_91 : decode cX4_goesOn 91 = .ok (.iconst 1, 1) := by decide +kernel
theorem dX4_goesOn_92 : decode cX4_goesOn 92 = .ok (.iand, 1) := by decide +kernel
theorem dX4_goesOn_93 : decode cX4_goesOn 93 = .ok (.ifCond .ne 20, 3) := by decide +kernel
theorem dX4_goesOn_96 : decode cX4_goesOn 96 = .ok (.iload_n 3, 1) := by decide +kernel
theorem dX4_goesOn_97 : decode cX4_goesOn 97 = .ok (.invokestatic 237, 3) := by decide +kernel
theorem dX4_goesOn_100 : decode cX4_goesOn 100 = .ok (.bipush (-9), 2) := by decide +kernel
theorem dX4_goesOn_102 : decode cX4_goesOn 102 = .ok (.if_icmp .eq 7, 3) := by decide +kernel
theorem dX4_goesOn_105 : decode cX4_goesOn 105 = .ok (.iconst 1, 1) := by decide +kernel
theorem dX4_goesOn_106 : decode cX4_goesOn 106 = .ok (.goto 15, 3) := by decide +kernel
theorem dX4_goesOn_109 : decode cX4_goesOn 109 = .ok (.iconst 0, 1) := by decide +kernel
theorem dX4_goesOn_110 : decode cX4_goesOn 110 = .ok (.goto 11, 3) := by decide +kernel
theorem dX4_goesOn_113 : decode cX4_goesOn 113 = .ok (.iload_n 3, 1) := by decide +kernel
theorem dX4_goesOn_114 : decode cX4_goesOn 114 = .ok (.bipush 48, 2) := by decide +kernel
theorem dX4_goesOn_116 : decode cX4_goesOn 116 = .ok (.bipush 57, 2) := by decide +kernel
theorem dX4_goesOn_118 : decode cX4_goesOn 118 = .ok (.invokestatic 107, 3) := by decide +kernel
theorem dX4_goesOn_121 : decode cX4_goesOn 121 = .ok (.ireturn, 1) := by decide +kernel
theorem dX4_lengthOfText_0 : decode cX4_lengthOfText 0 = .ok (.iconst 4, 1) := by decide +kernel
theorem dX4_lengthOfText_1 : decode cX4_lengthOfText 1 = .ok (.iconst 2, 1) := by decide +kernel
theorem dX4_lengthOfText_2 : decode cX4_lengthOfText 2 = .ok (.aload_n 0, 1) := by decide +kernel
theorem dX4_lengthOfText_3 : decode cX4_lengthOfText 3 = .ok (.iload_n 1, 1) := by decide +kernel
theorem dX4_lengthOfText_4 : decode cX4_lengthOfText 4 = .ok (.iconst 2, 1) := by decide +kernel
theorem dX4_lengthOfText_5 : decode cX4_lengthOfText 5 = .ok (.iadd, 1) := by decide +kernel
theorem dX4_lengthOfText_6 : decode cX4_lengthOfText 6 = .ok (.invokestatic 240, 3) := by decide +kernel
theorem dX4_lengthOfText_9 : decode cX4_lengthOfText 9 = .ok (.imul, 1) := by decide +kernel
theorem dX4_lengthOfText_10 : decode cX4_lengthOfText 10 = .ok (.aload_n 0, 1) := by decide +kernel
theorem dX4_lengthOfText_11 : decode cX4_lengthOfText 11 = .ok (.iload_n 1, 1) := by decide +kernel
theorem dX4_lengthOfText_12 : decode cX4_lengthOfText 12 = .ok (.iconst 3, 1) := by decide +kernel
theorem dX4_lengthOfText_13 : decode cX4_lengthOfText 13 = .ok (.iadd, 1) := by decide +kernel
theorem dX4_lengthOfText_14 : decode cX4_lengthOfText 14 = .ok (.invokestatic 240, 3) := by decide +kernel
theorem dX4_lengthOfText_17 : decode cX4_lengthOfText 17 = .ok (.imul, 1) := by decide +kernel
theorem dX4_lengthOfText_18 : decode cX4_lengthOfText 18 = .ok (.iadd, 1) := by decide +kernel
theorem dX4_lengthOfText_19 : decode cX4_lengthOfText 19 = .ok (.ireturn, 1) := by decide +kernel
theorem dX4_digitAt_0 : decode cX4_digitAt 0 = .ok (.aload_n 0, 1) := by decide +kernel
theorem dX4_digitAt_1 : decode cX4_digitAt 1 = .ok (.iload_n 1, 1) := by decide +kernel
theorem dX4_digitAt_2 : decode cX4_digitAt 2 = .ok (.invokevirtual 196, 3) := by decide +kernel
theorem dX4_digitAt_5 : decode cX4_digitAt 5 = .ok (.bipush 48, 2) := by decide +kernel
theorem dX4_digitAt_7 : decode cX4_digitAt 7 = .ok (.isub, 1) := by decide +kernel
theorem dX4_digitAt_8 : decode cX4_digitAt 8 = .ok (.ireturn, 1) := by decide +kernel
theorem dX4_kindByLetter_0 : decode cX4_kindByLetter 0 = .ok (.iload_n 0, 1) := by decide +kernel
theorem dX4_kindByLetter_1 : decode cX4_kindByLetter 1 = .ok (.lookupswitch 41 #[(99, 39), (109, 35), (115, 37)], 35) := by decide +kernel
theorem dX4_kindByLetter_36 : decode cX4_kindByLetter 36 = .ok (.iconst 0, 1) := by decide +kernel
theorem dX4_kindByLetter_37 : decode cX4_kindByLetter 37 = .ok (.ireturn, 1) := by decide +kernel
theorem dX4_kindByLetter_38 : decode cX4_kindByLetter 38 = .ok (.iconst 1, 1) := by decide +kernel
theorem dX4_kindByLetter_39 : decode cX4_kindByLetter 39 = .ok (.ireturn, 1) := by decide +kernel
theorem dX4_kindByLetter_40 : decode cX4_kindByLetter 40 = .ok (.iconst 2, 1) := by decide +kernel
theorem dX4_kindByLetter_41 : decode cX4_kindByLetter 41 = .ok (.ireturn, 1) := by decide +kernel
theorem dX4_kindByLetter_42 : decode cX4_kindByLetter 42 = .ok (.bipush (-9), 2) := by decide +kernel
theorem dX4_kindByLetter_44 : decode cX4_kindByLetter 44 = .ok (.ireturn, 1) := by decide +kernel
