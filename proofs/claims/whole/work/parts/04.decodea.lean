theorem dX0_init_0 : decode cX0_init 0 = .ok (.aload_n 0, 1) := by decide +kernel
theorem dX0_init_1 : decode cX0_init 1 = .ok (.invokespecial 3, 3) := by decide +kernel
theorem dX0_init_4 : decode cX0_init 4 = .ok (.aload_n 0, 1) := by decide +kernel
theorem dX0_init_5 : decode cX0_init 5 = .ok (.bipush 12, 2) := by decide +kernel
theorem dX0_init_7 : decode cX0_init 7 = .ok (.newarray .int, 2) := by decide +kernel
theorem dX0_init_9 : decode cX0_init 9 = .ok (.putfield 9, 3) := by decide +kernel
theorem dX0_init_12 : decode cX0_init 12 = .ok (.aload_n 0, 1) := by decide +kernel
theorem dX0_init_13 : decode cX0_init 13 = .ok (.bipush 12, 2) := by decide +kernel
theorem dX0_init_15 : decode cX0_init 15 = .ok (.newarray .int, 2) := by decide +kernel
theorem dX0_init_17 : decode cX0_init 17 = .ok (.putfield 15, 3) := by decide +kernel
theorem dX0_init_20 : decode cX0_init 20 = .ok (.aload_n 0, 1) := by decide +kernel
theorem dX0_init_21 : decode cX0_init 21 = .ok (.iconst 0, 1) := by decide +kernel
theorem dX0_init_22 : decode cX0_init 22 = .ok (.putfield 18, 3) := by decide +kernel
theorem dX0_init_25 : decode cX0_init 25 = .ok (.aload_n 0, 1) := by decide +kernel
theorem dX0_init_26 : decode cX0_init 26 = .ok (.iconst 0, 1) := by decide +kernel
theorem dX0_init_27 : decode cX0_init 27 = .ok (.putfield 22, 3) := by decide +kernel
theorem dX0_init_30 : decode cX0_init 30 = .ok (.aload_n 0, 1) := by decide +kernel
theorem dX0_init_31 : decode cX0_init 31 = .ok (.iconst 0, 1) := by decide +kernel
theorem dX0_init_32 : decode cX0_init 32 = .ok (.putfield 25, 3) := by decide +kernel
theorem dX0_init_35 : decode cX0_init 35 = .ok (.aload_n 0, 1) := by decide +kernel
theorem dX0_init_36 : decode cX0_init 36 = .ok (.iconst 0, 1) := by decide +kernel
theorem dX0_init_37 : decode cX0_init 37 = .ok (.putfield 28, 3) := by decide +kernel
theorem dX0_init_40 : decode cX0_init 40 = .ok (.aload_n 0, 1) := by decide +kernel
theorem dX0_init_41 : decode cX0_init 41 = .ok (.iconst 0, 1) := by decide +kernel
theorem dX0_init_42 : decode cX0_init 42 = .ok (.putfield 31, 3) := by decide +kernel
theorem dX0_init_45 : decode cX0_init 45 = .ok (.aload_n 0, 1) := by decide +kernel
theorem dX0_init_46 : decode cX0_init 46 = .ok (.iconst 0, 1) := by decide +kernel
theorem dX0_init_47 : decode cX0_init 47 = .ok (.putfield 34, 3) := by decide +kernel
theorem dX0_init_50 : decode cX0_init 50 = .ok (.aload_n 0, 1) := by decide +kernel
theorem dX0_init_51 : decode cX0_init 51 = .ok (.iconst 0, 1) := by decide +kernel
theorem dX0_init_52 : decode cX0_init 52 = .ok (.putfield 37, 3) := by decide +kernel
theorem dX0_init_55 : decode cX0_init 55 = .ok (.return_, 1) := by decide +kernel
theorem dX0_becomeText_0 : decode cX0_becomeText 0 = .ok (.aload_n 0, 1) := by decide +kernel
theorem dX0_becomeText_1 : decode cX0_becomeText 1 = .ok (.aload_n 1, 1) := by decide +kernel
theorem dX0_becomeText_2 : decode cX0_becomeText 2 = .ok (.iload_n 2, 1) := by decide +kernel
theorem dX0_becomeText_3 : decode cX0_becomeText 3 = .ok (.iconst 1, 1) := by decide +kernel
theorem dX0_becomeText_4 : decode cX0_becomeText 4 = .ok (.iadd, 1) := by decide +kernel
theorem dX0_becomeText_5 : decode cX0_becomeText 5 = .ok (.invokestatic 40, 3) := by decide +kernel
theorem dX0_becomeText_8 : decode cX0_becomeText 8 = .ok (.putfield 28, 3) := by decide +kernel
theorem dX0_becomeText_11 : decode cX0_becomeText 11 = .ok (.aload_n 0, 1) := by decide +kernel
theorem dX0_becomeText_12 : decode cX0_becomeText 12 = .ok (.aload_n 1, 1) := by decide +kernel
theorem dX0_becomeText_13 : decode cX0_becomeText 13 = .ok (.iload_n 2, 1) := by decide +kernel
theorem dX0_becomeText_14 : decode cX0_becomeText 14 = .ok (.iconst 2, 1) := by decide +kernel
theorem dX0_becomeText_15 : decode cX0_becomeText 15 = .ok (.iadd, 1) := by decide +kernel
theorem dX0_becomeText_16 : decode cX0_becomeText 16 = .ok (.invokestatic 40, 3) := by decide +kernel
theorem dX0_becomeText_19 : decode cX0_becomeText 19 = .ok (.aload_n 1, 1) := by decide +kernel
theorem dX0_becomeText_20 : decode cX0_becomeText 20 = .ok (.iload_n 2, 1) := by decide +kernel
theorem dX0_becomeText_21 : decode cX0_becomeText 21 = .ok (.iconst 3, 1) := by decide +kernel
theorem dX0_becomeText_22 : decode cX0_becomeText 22 = .ok (.iadd, 1) := by decide +kernel
theorem dX0_becomeText_23 : decode cX0_becomeText 23 = .ok (.invokestatic 40, 3) := by decide +kernel
theorem dX0_becomeText_26 : decode cX0_becomeText 26 = .ok (.invokevirtual 44, 3) := by decide +kernel
theorem dX0_becomeText_29 : decode cX0_becomeText 29 = .ok (.iconst 0, 1) := by decide +kernel
theorem dX0_becomeText_30 : decode cX0_becomeText 30 = .ok (.istore_n 3, 1) := by decide +kernel
theorem dX0_becomeText_31 : decode cX0_becomeText 31 = .ok (.iload_n 3, 1) := by decide +kernel
theorem dX0_becomeText_32 : decode cX0_becomeText 32 = .ok (.aload_n 0, 1) := by decide +kernel
theorem dX0_becomeText_33 : decode cX0_becomeText 33 = .ok (.getfield 25, 3) := by decide +kernel
theorem dX0_becomeText_36 : decode cX0_becomeText 36 = .ok (.if_icmp .ge 48, 3) := by decide +kernel
theorem dX0_becomeText_39 : decode cX0_becomeText 39 = .ok (.aload_n 0, 1) := by decide +kernel
theorem dX0_becomeText_40 : decode cX0_becomeText 40 = .ok (.getfield 9, 3) := by decide +kernel
theorem dX0_becomeText_43 : decode cX0_becomeText 43 = .ok (.iload_n 3, 1) := by decide +kernel
theorem dX0_becomeText_44 : decode cX0_becomeText 44 = .ok (.aload_n 1, 1) := by decide +kernel
theorem dX0_becomeText_45 : decode cX0_becomeText 45 = .ok (.iload_n 2, 1) := by decide +kernel
theorem dX0_becomeText_46 : decode cX0_becomeText 46 = .ok (.iconst 4, 1) := by decide +kernel
theorem dX0_becomeText_47 : decode cX0_becomeText 47 = .ok (.iadd, 1) := by decide +kernel
theorem dX0_becomeText_48 : decode cX0_becomeText 48 = .ok (.iconst 2, 1) := by decide +kernel
theorem dX0_becomeText_49 : decode cX0_becomeText 49 = .ok (.iload_n 3, 1) := by decide +kernel
theorem dX0_becomeText_50 : decode cX0_becomeText 50 = .ok (.imul, 1) := by decide +kernel
theorem dX0_becomeText_51 : decode cX0_becomeText 51 = .ok (.iadd, 1) := by decide +kernel
theorem dX0_becomeText_52 : decode cX0_becomeText 52 = .ok (.invokevirtual 48, 3) := by decide +kernel
theorem dX0_becomeText_55 : decode cX0_becomeText 55 = .ok (.invokestatic 54, 3) := by decide +kernel
theorem dX0_becomeText_58 : decode cX0_becomeText 58 = .ok (.iastore, 1) := by decide +kernel
theorem dX0_becomeText_59 : decode cX0_becomeText 59 = .ok (.aload_n 0, 1) := by decide +kernel
theorem dX0_becomeText_60 : decode cX0_becomeText 60 = .ok (.getfield 15, 3) := by decide +kernel
theorem dX0_becomeText_63 : decode cX0_becomeText 63 = .ok (.iload_n 3, 1) := by decide +kernel
theorem dX0_becomeText_64 : decode cX0_becomeText 64 = .ok (.aload_n 1, 1) := by decide +kernel
theorem dX0_becomeText_65 : decode cX0_becomeText 65 = .ok (.iload_n 2, 1) := by decide +kernel
theorem dX0_becomeText_66 : decode cX0_becomeText 66 = .ok (.iconst 4, 1) := by decide +kernel
theorem dX0_becomeText_67 : decode cX0_becomeText 67 = .ok (.iadd, 1) := by decide +kernel
theorem dX0_becomeText_68 : decode cX0_becomeText 68 = .ok (.iconst 2, 1) := by decide +kernel
theorem dX0_becomeText_69 : decode cX0_becomeText 69 = .ok (.iload_n 3, 1) := by decide +kernel
theorem dX0_becomeText_70 : decode cX0_becomeText 70 = .ok (.imul, 1) := by decide +kernel
theorem dX0_becomeText_71 : decode cX0_becomeText 71 = .ok (.iadd, 1) := by decide +kernel
theorem dX0_becomeText_72 : decode cX0_becomeText 72 = .ok (.iconst 1, 1) := by decide +kernel
theorem dX0_becomeText_73 : decode cX0_becomeText 73 = .ok (.iadd, 1) := by decide +kernel
theorem dX0_becomeText_74 : decode cX0_becomeText 74 = .ok (.invokestatic 40, 3) := by decide +kernel
theorem dX0_becomeText_77 : decode cX0_becomeText 77 = .ok (.iastore, 1) := by decide +kernel
theorem dX0_becomeText_78 : decode cX0_becomeText 78 = .ok (.iinc 3 1, 3) := by decide +kernel
theorem dX0_becomeText_81 : decode cX0_becomeText 81 = .ok (.goto (-50), 3) := by decide +kernel
theorem dX0_becomeText_84 : decode cX0_becomeText 84 = .ok (.return_, 1) := by decide +kernel
theorem dX0_setShape_0 : decode cX0_setShape 0 = .ok (.aload_n 0, 1) := by decide +kernel
theorem dX0_setShape_1 : decode cX0_setShape 1 = .ok (.iload_n 1, 1) := by decide +kernel
theorem dX0_setShape_2 : decode cX0_setShape 2 = .ok (.putfield 18, 3) := by decide +kernel
theorem dX0_setShape_5 : decode cX0_setShape 5 = .ok (.aload_n 0, 1) := by decide +kernel
theorem dX0_setShape_6 : decode cX0_setShape 6 = .ok (.iload_n 2, 1) := by decide +kernel
theorem dX0_setShape_7 : decode cX0_setShape 7 = .ok (.putfield 22, 3) := by decide +kernel
theorem dX0_setShape_10 : decode cX0_setShape 10 = .ok (.aload_n 0, 1) := by decide +kernel
theorem dX0_setShape_11 : decode cX0_setShape 11 = .ok (.iload_n 1, 1) := by decide +kernel
theorem dX0_setShape_12 : decode cX0_setShape 12 = .ok (.iload_n 2, 1) := by decide +kernel
theorem dX0_setShape_13 : decode cX0_setShape 13 = .ok (.imul, 1) := by decide +kernel
theorem dX0_setShape_14 : decode cX0_setShape 14 = .ok (.bipush 12, 2) := by decide +kernel
theorem dX0_setShape_16 : decode cX0_setShape 16 = .ok (.invokestatic 57, 3) := by decide +kernel
theorem dX0_setShape_19 : decode cX0_setShape 19 = .ok (.putfield 25, 3) := by decide +kernel
theorem dX0_setShape_22 : decode cX0_setShape 22 = .ok (.aload_n 0, 1) := by decide +kernel
theorem dX0_setShape_23 : decode cX0_setShape 23 = .ok (.iconst 1, 1) := by decide +kernel
theorem dX0_setShape_24 : decode cX0_setShape 24 = .ok (.aload_n 0, 1) := by decide +kernel
theorem dX0_setShape_25 : decode cX0_setShape 25 = .ok (.getfield 25, 3) := by decide +kernel
theorem dX0_setShape_28 : decode cX0_setShape 28 = .ok (.ishl, 1) := by decide +kernel
theorem dX0_setShape_29 : decode cX0_setShape 29 = .ok (.iconst 1, 1) := by decide +kernel
theorem dX0_setShape_30 : decode cX0_setShape 30 = .ok (.isub, 1) := by decide +kernel
theorem dX0_setShape_31 : decode cX0_setShape 31 = .ok (.putfield 31, 3) := by decide +kernel
theorem dX0_setShape_34 : decode cX0_setShape 34 = .ok (.aload_n 0, 1) := by decide +kernel
theorem dX0_setShape_35 : decode cX0_setShape 35 = .ok (.iconst 0, 1) := by decide +kernel
theorem dX0_setShape_36 : decode cX0_setShape 36 = .ok (.putfield 34, 3) := by decide +kernel
theorem dX0_setShape_39 : decode cX0_setShape 39 = .ok (.iconst 0, 1) := by decide +kernel
theorem dX0_setShape_40 : decode cX0_setShape 40 = .ok (.istore_n 3, 1) := by decide +kernel
theorem dX0_setShape_41 : decode cX0_setShape 41 = .ok (.iload_n 3, 1) := by decide +kernel
theorem dX0_setShape_42 : decode cX0_setShape 42 = .ok (.aload_n 0, 1) := by decide +kernel
theorem dX0_setShape_43 : decode cX0_setShape 43 = .ok (.getfield 22, 3) := by decide +kernel
theorem dX0_setShape_46 : decode cX0_setShape 46 = .ok (.if_icmp .ge 26, 3) := by decide +kernel
theorem dX0_setShape_49 : decode cX0_setShape 49 = .ok (.aload_n 0, 1) := by decide +kernel
theorem dX0_setShape_50 : decode cX0_setShape 50 = .ok (.dup, 1) := by decide +kernel
theorem dX0_setShape_51 : decode cX0_setShape 51 = .ok (.getfield 34, 3) := by decide +kernel
theorem dX0_setShape_54 : decode cX0_setShape 54 = .ok (.iconst 1, 1) := by decide +kernel
theorem dX0_setShape_55 : decode cX0_setShape 55 = .ok (.iload_n 3, 1) := by decide +kernel
theorem dX0_setShape_56 : decode cX0_setShape 56 = .ok (.aload_n 0, 1) := by decide +kernel
theorem dX0_setShape_57 : decode cX0_setShape 57 = .ok (.getfield 18, 3) := by decide +kernel
theorem dX0_setShape_60 : decode cX0_setShape 60 = .ok (.imul, 1) := by decide +kernel
theorem dX0_setShape_61 : decode cX0_setShape 61 = .ok (.ishl, 1) := by decide +kernel
theorem dX0_setShape_62 : decode cX0_setShape 62 = .ok (.ior, 1) := by decide +kernel
theorem dX0_setShape_63 : decode cX0_setShape 63 = .ok (.putfield 34, 3) := by decide +kernel
theorem dX0_setShape_66 : decode cX0_setShape 66 = .ok (.iinc 3 1, 3) := by decide +kernel
theorem dX0_setShape_69 : decode cX0_setShape 69 = .ok (.goto (-28), 3) := by decide +kernel
theorem dX0_setShape_72 : decode cX0_setShape 72 = .ok (.aload_n 0, 1) := by decide +kernel
theorem dX0_setShape_73 : decode cX0_setShape 73 = .ok (.aload_n 0, 1) := by decide +kernel
theorem dX0_setShape_74 : decode cX0_setShape 74 = .ok (.getfield 34, 3) := by decide +kernel
theorem dX0_setShape_77 : decode cX0_setShape 77 = .ok (.aload_n 0, 1) := by decide +kernel
theorem dX0_setShape_78 : decode cX0_setShape 78 = .ok (.getfield 18, 3) := by decide +kernel
theorem dX0_setShape_81 : decode cX0_setShape 81 = .ok (.iconst 1, 1) := by decide +kernel
theorem dX0_setShape_82 : decode cX0_setShape 82 = .ok (.isub, 1) := by decide +kernel
theorem dX0_setShape_83 : decode cX0_setShape 83 = .ok (.ishl, 1) := by decide +kernel
theorem dX0_setShape_84 : decode cX0_setShape 84 = .ok (.putfield 37, 3) := by decide +kernel
theorem dX0_setShape_87 : decode cX0_setShape 87 = .ok (.return_, 1) := by decide +kernel
theorem dX0_becomeLike_0 : decode cX0_becomeLike 0 = .ok (.aload_n 0, 1) := by decide +kernel
theorem dX0_becomeLike_1 : decode cX0_becomeLike 1 = .ok (.aload_n 1, 1) := by decide +kernel
theorem dX0_becomeLike_2 : decode cX0_becomeLike 2 = .ok (.getfield 18, 3) := by decide +kernel
theorem dX0_becomeLike_5 : decode cX0_becomeLike 5 = .ok (.putfield 18, 3) := by decide +kernel
theorem dX0_becomeLike_8 : decode cX0_becomeLike 8 = .ok (.aload_n 0, 1) := by decide +kernel
theorem dX0_becomeLike_9 : decode cX0_becomeLike 9 = .ok (.aload_n 1, 1) := by decide +kernel
theorem dX0_becomeLike_10 : decode cX0_becomeLike 10 = .ok (.getfield 22, 3) := by decide +kernel
theorem dX0_becomeLike_13 : decode cX0_becomeLike 13 = .ok (.putfield 22, 3) := by decide +kernel
theorem dX0_becomeLike_16 : decode cX0_becomeLike 16 = .ok (.aload_n 0, 1) := by decide +kernel
theorem dX0_becomeLike_17 : decode cX0_becomeLike 17 = .ok (.aload_n 1, 1) := by decide +kernel
theorem dX0_becomeLike_18 : decode cX0_becomeLike 18 = .ok (.getfield 25, 3) := by decide +kernel
theorem dX0_becomeLike_21 : decode cX0_becomeLike 21 = .ok (.putfield 25, 3) := by decide +kernel
theorem dX0_becomeLike_24 : decode cX0_becomeLike 24 = .ok (.aload_n 0, 1) := by decide +kernel
theorem dX0_becomeLike_25 : decode cX0_becomeLike 25 = .ok (.aload_n 1, 1) := by decide +kernel
theorem dX0_becomeLike_26 : decode cX0_becomeLike 26 = .ok (.getfield 28, 3) := by decide +kernel
theorem dX0_becomeLike_29 : decode cX0_becomeLike 29 = .ok (.putfield 28, 3) := by decide +kernel
theorem dX0_becomeLike_32 : decode cX0_becomeLike 32 = .ok (.aload_n 0, 1) := by decide +kernel
theorem dX0_becomeLike_33 : decode cX0_becomeLike 33 = .ok (.aload_n 1, 1) := by decide +kernel
theorem dX0_becomeLike_34 : decode cX0_becomeLike 34 = .ok (.getfield 31, 3) := by decide +kernel
theorem dX0_becomeLike_37 : decode cX0_becomeLike 37 = .ok (.putfield 31, 3) := by decide +kernel
theorem dX0_becomeLike_40 : decode cX0_becomeLike 40 = .ok (.aload_n 0, 1) := by decide +kernel
theorem dX0_becomeLike_41 : decode cX0_becomeLike 41 = .ok (.aload_n 1, 1) := by decide +kernel
theorem dX0_becomeLike_42 : decode cX0_becomeLike 42 = .ok (.getfield 34, 3) := by decide +kernel
theorem dX0_becomeLike_45 : decode cX0_becomeLike 45 = .ok (.putfield 34, 3) := by decide +kernel
theorem dX0_becomeLike_48 : decode cX0_becomeLike 48 = .ok (.aload_n 0, 1) := by decide +kernel
theorem dX0_becomeLike_49 : decode cX0_becomeLike 49 = .ok (.aload_n 1, 1) := by decide +kernel
theorem dX0_becomeLike_50 : decode cX0_becomeLike 50 = .ok (.getfield 37, 3) := by decide +kernel
theorem dX0_becomeLike_53 : decode cX0_becomeLike 53 = .ok (.putfield 37, 3) := by decide +kernel
theorem dX0_becomeLike_56 : decode cX0_becomeLike 56 = .ok (.iconst 0, 1) := by decide +kernel
theorem dX0_becomeLike_57 : decode cX0_becomeLike 57 = .ok (.istore_n 2, 1) := by decide +kernel
theorem dX0_becomeLike_58 : decode cX0_becomeLike 58 = .ok (.iload_n 2, 1) := by decide +kernel
theorem dX0_becomeLike_59 : decode cX0_becomeLike 59 = .ok (.aload_n 0, 1) := by decide +kernel
theorem dX0_becomeLike_60 : decode cX0_becomeLike 60 = .ok (.getfield 25, 3) := by decide +kernel
theorem dX0_becomeLike_63 : decode cX0_becomeLike 63 = .ok (.if_icmp .ge 33, 3) := by decide +kernel
theorem dX0_becomeLike_66 : decode cX0_becomeLike 66 = .ok (.aload_n 0, 1) := by decide +kernel
theorem dX0_becomeLike_67 : decode cX0_becomeLike 67 = .ok (.getfield 9, 3) := by decide +kernel
theorem dX0_becomeLike_70 : decode cX0_becomeLike 70 = .ok (.iload_n 2, 1) := by decide +kernel
theorem dX0_becomeLike_71 : decode cX0_becomeLike 71 = .ok (.aload_n 1, 1) := by decide +kernel
theorem dX0_becomeLike_72 : decode cX0_becomeLike 72 = .ok (.getfield 9, 3) := by decide +kernel
theorem dX0_becomeLike_75 : decode cX0_becomeLike 75 = .ok (.iload_n 2, 1) := by decide +kernel
theorem dX0_becomeLike_76 : decode cX0_becomeLike 76 = .ok (.iaload, 1) := by decide +kernel
theorem dX0_becomeLike_77 : decode cX0_becomeLike 77 = .ok (.iastore, 1) := by decide +kernel
theorem dX0_becomeLike_78 : decode cX0_becomeLike 78 = .ok (.aload_n 0, 1) := by decide +kernel
theorem dX0_becomeLike_79 : decode cX0_becomeLike 79 = .ok (.getfield 15, 3) := by decide +kernel
theorem dX0_becomeLike_82 : decode cX0_becomeLike 82 = .ok (.iload_n 2, 1) := by decide +kernel
theorem dX0_becomeLike_83 : decode cX0_becomeLike 83 = .ok (.aload_n 1, 1) := by decide +kernel
theorem dX0_becomeLike_84 : decode cX0_becomeLike 84 = .ok (.getfield 15, 3) := by decide +kernel
theorem dX0_becomeLike_87 : decode cX0_becomeLike 87 = .ok (.iload_n 2, 1) := by decide +kernel
theorem dX0_becomeLike_88 : decode cX0_becomeLike 88 = .ok (.iaload, 1) := by decide +kernel
theorem dX0_becomeLike_89 : decode cX0_becomeLike 89 = .ok (.iastore, 1) := by decide +kernel
theorem dX0_becomeLike_90 : decode cX0_becomeLike 90 = .ok (.iinc 2 1, 3) := by decide +kernel
theorem dX0_becomeLike_93 : decode cX0_becomeLike 93 = .ok (.goto (-35), 3) := by decide +kernel
theorem dX0_becomeLike_96 : decode cX0_becomeLike 96 = .ok (.return_, 1) := by decide +kernel
theorem dX0_isThere_0 : decode cX0_isThere 0 = .ok (.aload_n 0, 1) := by decide +kernel
theorem dX0_isThere_1 : decode cX0_isThere 1 = .ok (.getfield 25, 3) := by decide +kernel
theorem dX0_isThere_4 : decode cX0_isThere 4 = .ok (.ifCond .le 7, 3) := by decide +kernel
theorem dX0_isThere_7 : decode cX0_isThere 7 = .ok (.iconst 1, 1) := by decide +kernel
theorem dX0_isThere_8 : decode cX0_isThere 8 = .ok (.goto 4, 3) := by decide +kernel
theorem dX0_isThere_11 : decode cX0_isThere 11 = .ok (.iconst 0, 1) := by decide +kernel
theorem dX0_isThere_12 : decode cX0_isThere 12 = .ok (.ireturn, 1) := by decide +kernel
theorem dX0_isCell_0 : decode cX0_isCell 0 = .ok (.iload_n 1, 1) := by decide +kernel
theorem dX0_isCell_1 : decode cX0_isCell 1 = .ok (.ifCond .lt 15, 3) := by decide +kernel
theorem dX0_isCell_4 : decode cX0_isCell 4 = .ok (.iload_n 1, 1) := by decide +kernel
theorem dX0_isCell_5 : decode cX0_isCell 5 = .ok (.aload_n 0, 1) := by decide +kernel
theorem dX0_isCell_6 : decode cX0_isCell 6 = .ok (.getfield 25, 3) := by decide +kernel
theorem dX0_isCell_9 : decode cX0_isCell 9 = .ok (.if_icmp .ge 7, 3) := by decide +kernel
theorem dX0_isCell_12 : decode cX0_isCell 12 = .ok (.iconst 1, 1) := by decide +kernel
theorem dX0_isCell_13 : decode cX0_isCell 13 = .ok (.goto 4, 3) := by decide +kernel
theorem dX0_isCell_16 : decode cX0_isCell 16 = .ok (.iconst 0, 1) := by decide +kernel
theorem dX0_isCell_17 : decode cX0_isCell 17 = .ok (.ireturn, 1) := by decide +kernel
theorem dX0_losesOf_0 : decode cX0_losesOf 0 = .ok (.aload_n 0, 1) := by decide +kernel
theorem dX0_losesOf_1 : decode cX0_losesOf 1 = .ok (.getfield 9, 3) := by decide +kernel
theorem dX0_losesOf_4 : decode cX0_losesOf 4 = .ok (.iload_n 1, 1) := by decide +kernel
theorem dX0_losesOf_5 : decode cX0_losesOf 5 = .ok (.iaload, 1) := by decide +kernel
theorem dX0_losesOf_6 : decode cX0_losesOf 6 = .ok (.lookupswitch 40 #[(1, 26), (2, 33)], 26) := by decide +kernel
theorem dX0_losesOf_32 : decode cX0_losesOf 32 = .ok (.aload_n 0, 1) := by decide +kernel
theorem dX0_losesOf_33 : decode cX0_losesOf 33 = .ok (.getfield 28, 3) := by decide +kernel
theorem dX0_losesOf_36 : decode cX0_losesOf 36 = .ok (.iconst 1, 1) := by decide +kernel
theorem dX0_losesOf_37 : decode cX0_losesOf 37 = .ok (.iadd, 1) := by decide +kernel
theorem dX0_losesOf_38 : decode cX0_losesOf 38 = .ok (.ireturn, 1) := by decide +kernel
theorem dX0_losesOf_39 : decode cX0_losesOf 39 = .ok (.aload_n 0, 1) := by decide +kernel
theorem dX0_losesOf_40 : decode cX0_losesOf 40 = .ok (.getfield 28, 3) := by decide +kernel
theorem dX0_losesOf_43 : decode cX0_losesOf 43 = .ok (.iconst 2, 1) := by decide +kernel
theorem dX0_losesOf_44 : decode cX0_losesOf 44 = .ok (.idiv, 1) := by decide +kernel
theorem dX0_losesOf_45 : decode cX0_losesOf 45 = .ok (.ireturn, 1) := by decide +kernel
theorem dX0_losesOf_46 : decode cX0_losesOf 46 = .ok (.aload_n 0, 1) := by decide +kernel
theorem dX0_losesOf_47 : decode cX0_losesOf 47 = .ok (.getfield 28, 3) := by decide +kernel
theorem dX0_losesOf_50 : decode cX0_losesOf 50 = .ok (.ireturn, 1) := by decide +kernel
theorem dX0_passHours_0 : decode cX0_passHours 0 = .ok (.iconst 0, 1) := by decide +kernel
theorem dX0_passHours_1 : decode cX0_passHours 1 = .ok (.istore_n 2, 1) := by decide +kernel
theorem dX0_passHours_2 : decode cX0_passHours 2 = .ok (.iload_n 2, 1) := by decide +kernel
theorem dX0_passHours_3 : decode cX0_passHours 3 = .ok (.aload_n 0, 1) := by decide +kernel
theorem dX0_passHours_4 : decode cX0_passHours 4 = .ok (.getfield 25, 3) := by decide +kernel
theorem dX0_passHours_7 : decode cX0_passHours 7 = .ok (.if_icmp .ge 33, 3) := by decide +kernel
theorem dX0_passHours_10 : decode cX0_passHours 10 = .ok (.aload_n 0, 1) := by decide +kernel
theorem dX0_passHours_11 : decode cX0_passHours 11 = .ok (.getfield 15, 3) := by decide +kernel
theorem dX0_passHours_14 : decode cX0_passHours 14 = .ok (.iload_n 2, 1) := by decide +kernel
theorem dX0_passHours_15 : decode cX0_passHours 15 = .ok (.iconst 0, 1) := by decide +kernel
theorem dX0_passHours_16 : decode cX0_passHours 16 = .ok (.aload_n 0, 1) := by decide +kernel
theorem dX0_passHours_17 : decode cX0_passHours 17 = .ok (.getfield 15, 3) := by decide +kernel
theorem dX0_passHours_20 : decode cX0_passHours 20 = .ok (.iload_n 2, 1) := by decide +kernel
theorem dX0_passHours_21 : decode cX0_passHours 21 = .ok (.iaload, 1) := by decide +kernel
theorem dX0_passHours_22 : decode cX0_passHours 22 = .ok (.iload_n 1, 1) := by decide +kernel
theorem dX0_passHours_23 : decode cX0_passHours 23 = .ok (.aload_n 0, 1) := by decide +kernel
theorem dX0_passHours_24 : decode cX0_passHours 24 = .ok (.iload_n 2, 1) := by decide +kernel
theorem dX0_passHours_25 : decode cX0_passHours 25 = .ok (.invokevirtual 63, 3) := by decide +kernel
theorem dX0_passHours_28 : decode cX0_passHours 28 = .ok (.imul, 1) := by decide +kernel
theorem dX0_passHours_29 : decode cX0_passHours 29 = .ok (.isub, 1) := by decide +kernel
theorem dX0_passHours_30 : decode cX0_passHours 30 = .ok (.invokestatic 66, 3) := by decide +kernel
theorem dX0_passHours_33 : decode cX0_passHours 33 = .ok (.iastore, 1) := by decide +kernel
theorem dX0_passHours_34 : decode cX0_passHours 34 = .ok (.iinc 2 1, 3) := by decide +kernel
theorem dX0_passHours_37 : decode cX0_passHours 37 = .ok (.goto (-35), 3) := by decide +kernel
theorem dX0_passHours_40 : decode cX0_passHours 40 = .ok (.return_, 1) := by decide +kernel
theorem dX0_pourOn_0 : decode cX0_pourOn 0 = .ok (.aload_n 0, 1) := by decide +kernel
theorem dX0_pourOn_1 : decode cX0_pourOn 1 = .ok (.iload_n 1, 1) := by decide +kernel
theorem dX0_pourOn_2 : decode cX0_pourOn 2 = .ok (.invokevirtual 69, 3) := by decide +kernel
theorem dX0_pourOn_5 : decode cX0_pourOn 5 = .ok (.ifCond .eq 12, 3) := by decide +kernel
theorem dX0_pourOn_8 : decode cX0_pourOn 8 = .ok (.aload_n 0, 1) := by decide +kernel
theorem dX0_pourOn_9 : decode cX0_pourOn 9 = .ok (.getfield 15, 3) := by decide +kernel
theorem dX0_pourOn_12 : decode cX0_pourOn 12 = .ok (.iload_n 1, 1) := by decide +kernel
theorem dX0_pourOn_13 : decode cX0_pourOn 13 = .ok (.iaload, 1) := by decide +kernel
theorem dX0_pourOn_14 : decode cX0_pourOn 14 = .ok (.ifCond .ne 5, 3) := by decide +kernel
theorem dX0_pourOn_17 : decode cX0_pourOn 17 = .ok (.iconst 0, 1) := by decide +kernel
theorem dX0_pourOn_18 : decode cX0_pourOn 18 = .ok (.ireturn, 1) := by decide +kernel
theorem dX0_pourOn_19 : decode cX0_pourOn 19 = .ok (.aload_n 0, 1) := by decide +kernel
theorem dX0_pourOn_20 : decode cX0_pourOn 20 = .ok (.getfield 15, 3) := by decide +kernel
theorem dX0_pourOn_23 : decode cX0_pourOn 23 = .ok (.iload_n 1, 1) := by decide +kernel
theorem dX0_pourOn_24 : decode cX0_pourOn 24 = .ok (.bipush 9, 2) := by decide +kernel
theorem dX0_pourOn_26 : decode cX0_pourOn 26 = .ok (.aload_n 0, 1) := by decide +kernel
theorem dX0_pourOn_27 : decode cX0_pourOn 27 = .ok (.getfield 15, 3) := by decide +kernel
theorem dX0_pourOn_30 : decode cX0_pourOn 30 = .ok (.iload_n 1, 1) := by decide +kernel
theorem dX0_pourOn_31 : decode cX0_pourOn 31 = .ok (.iaload, 1) := by decide +kernel
theorem dX0_pourOn_32 : decode cX0_pourOn 32 = .ok (.iload_n 2, 1) := by decide +kernel
theorem dX0_pourOn_33 : decode cX0_pourOn 33 = .ok (.iadd, 1) := by decide +kernel
theorem dX0_pourOn_34 : decode cX0_pourOn 34 = .ok (.invokestatic 57, 3) := by decide +kernel
theorem dX0_pourOn_37 : decode cX0_pourOn 37 = .ok (.iastore, 1) := by decide +kernel
theorem dX0_pourOn_38 : decode cX0_pourOn 38 = .ok (.iconst 1, 1) := by decide +kernel
theorem dX0_pourOn_39 : decode cX0_pourOn 39 = .ok (.ireturn, 1) := by decide +kernel
theorem dX0_wetOfAll_0 : decode cX0_wetOfAll 0 = .ok (.iconst 0, 1) := by decide +kernel
theorem dX0_wetOfAll_1 : decode cX0_wetOfAll 1 = .ok (.istore_n 1, 1) := by decide +kernel
theorem dX0_wetOfAll_2 : decode cX0_wetOfAll 2 = .ok (.iconst 0, 1) := by decide +kernel
theorem dX0_wetOfAll_3 : decode cX0_wetOfAll 3 = .ok (.istore_n 2, 1) := by decide +kernel
theorem dX0_wetOfAll_4 : decode cX0_wetOfAll 4 = .ok (.iload_n 2, 1) := by decide +kernel
theorem dX0_wetOfAll_5 : decode cX0_wetOfAll 5 = .ok (.aload_n 0, 1) := by decide +kernel
theorem dX0_wetOfAll_6 : decode cX0_wetOfAll 6 = .ok (.getfield 25, 3) := by decide +kernel
theorem dX0_wetOfAll_9 : decode cX0_wetOfAll 9 = .ok (.if_icmp .ge 18, 3) := by decide +kernel
theorem dX0_wetOfAll_12 : decode cX0_wetOfAll 12 = .ok (.iload_n 1, 1) := by decide +kernel
theorem dX0_wetOfAll_13 : decode cX0_wetOfAll 13 = .ok (.aload_n 0, 1) := by decide +kernel
theorem dX0_wetOfAll_14 : decode cX0_wetOfAll 14 = .ok (.getfield 15, 3) := by decide +kernel
theorem dX0_wetOfAll_17 : decode cX0_wetOfAll 17 = .ok (.iload_n 2, 1) := by decide +kernel
theorem dX0_wetOfAll_18 : decode cX0_wetOfAll 18 = .ok (.iaload, 1) := by decide +kernel
theorem dX0_wetOfAll_19 : decode cX0_wetOfAll 19 = .ok (.iadd, 1) := by decide +kernel
theorem dX0_wetOfAll_20 : decode cX0_wetOfAll 20 = .ok (.istore_n 1, 1) := by decide +kernel
theorem dX0_wetOfAll_21 : decode cX0_wetOfAll 21 = .ok (.iinc 2 1, 3) := by decide +kernel
theorem dX0_wetOfAll_24 : decode cX0_wetOfAll 24 = .ok (.goto (-20), 3) := by decide +kernel
theorem dX0_wetOfAll_27 : decode cX0_wetOfAll 27 = .ok (.iload_n 1, 1) := by decide +kernel
theorem dX0_wetOfAll_28 : decode cX0_wetOfAll 28 = .ok (.ireturn, 1) := by decide +kernel
theorem dX0_isCrackedBehind_0 : decode cX0_isCrackedBehind 0 = .ok (.aload_n 0, 1) := by decide +kernel
theorem dX0_isCrackedBehind_1 : decode cX0_isCrackedBehind 1 = .ok (.iload_n 1, 1) := by decide +kernel
theorem dX0_isCrackedBehind_2 : decode cX0_isCrackedBehind 2 = .ok (.invokevirtual 69, 3) := by decide +kernel
theorem dX0_isCrackedBehind_5 : decode cX0_isCrackedBehind 5 = .ok (.ifCond .eq 23, 3) := by decide +kernel
theorem dX0_isCrackedBehind_8 : decode cX0_isCrackedBehind 8 = .ok (.aload_n 0, 1) := by decide +kernel
theorem dX0_isCrackedBehind_9 : decode cX0_isCrackedBehind 9 = .ok (.getfield 15, 3) := by decide +kernel
theorem dX0_isCrackedBehind_12 : decode cX0_isCrackedBehind 12 = .ok (.iload_n 1, 1) := by decide +kernel
theorem dX0_isCrackedBehind_13 : decode cX0_isCrackedBehind 13 = .ok (.iaload, 1) := by decide +kernel
theorem dX0_isCrackedBehind_14 : decode cX0_isCrackedBehind 14 = .ok (.iload_n 2, 1) := by decide +kernel
theorem dX0_isCrackedBehind_15 : decode cX0_isCrackedBehind 15 = .ok (.aload_n 0, 1) := by decide +kernel
theorem dX0_isCrackedBehind_16 : decode cX0_isCrackedBehind 16 = .ok (.iload_n 1, 1) := by decide +kernel
theorem dX0_isCrackedBehind_17 : decode cX0_isCrackedBehind 17 = .ok (.invokevirtual 63, 3) := by decide +kernel
theorem dX0_isCrackedBehind_20 : decode cX0_isCrackedBehind 20 = .ok (.imul, 1) := by decide +kernel
theorem dX0_isCrackedBehind_21 : decode cX0_isCrackedBehind 21 = .ok (.if_icmp .gt 7, 3) := by decide +kernel
theorem dX0_isCrackedBehind_24 : decode cX0_isCrackedBehind 24 = .ok (.iconst 1, 1) := by decide +kernel
theorem dX0_isCrackedBehind_25 : decode cX0_isCrackedBehind 25 = .ok (.goto 4, 3) := by decide +kernel
theorem dX0_isCrackedBehind_28 : decode cX0_isCrackedBehind 28 = .ok (.iconst 0, 1) := by decide +kernel
theorem dX0_isCrackedBehind_29 : decode cX0_isCrackedBehind 29 = .ok (.ireturn, 1) := by decide +kernel
theorem dX0_crackedSetBehind_0 : decode cX0_crackedSetBehind 0 = .ok (.iconst 0, 1) := by decide +kernel
theorem dX0_crackedSetBehind_1 : decode cX0_crackedSetBehind 1 = .ok (.istore_n 2, 1) := by decide +kernel
theorem dX0_crackedSetBehind_2 : decode cX0_crackedSetBehind 2 = .ok (.iconst 0, 1) := by decide +kernel
theorem dX0_crackedSetBehind_3 : decode cX0_crackedSetBehind 3 = .ok (.istore_n 3, 1) := by decide +kernel
theorem dX0_crackedSetBehind_4 : decode cX0_crackedSetBehind 4 = .ok (.iload_n 3, 1) := by decide +kernel
theorem dX0_crackedSetBehind_5 : decode cX0_crackedSetBehind 5 = .ok (.aload_n 0, 1) := by decide +kernel
theorem dX0_crackedSetBehind_6 : decode cX0_crackedSetBehind 6 = .ok (.getfield 25, 3) := by decide +kernel
theorem dX0_crackedSetBehind_9 : decode cX0_crackedSetBehind 9 = .ok (.if_icmp .ge 24, 3) := by decide +kernel
theorem dX0_crackedSetBehind_12 : decode cX0_crackedSetBehind 12 = .ok (.aload_n 0, 1) := by decide +kernel
theorem dX0_crackedSetBehind_13 : decode cX0_crackedSetBehind 13 = .ok (.iload_n 3, 1) := by decide +kernel
theorem dX0_crackedSetBehind_14 : decode cX0_crackedSetBehind 14 = .ok (.iload_n 1, 1) := by decide +kernel
theorem dX0_crackedSetBehind_15 : decode cX0_crackedSetBehind 15 = .ok (.invokevirtual 73, 3) := by decide +kernel
theorem dX0_crackedSetBehind_18 : decode cX0_crackedSetBehind 18 = .ok (.ifCond .eq 9, 3) := by decide +kernel
theorem dX0_crackedSetBehind_21 : decode cX0_crackedSetBehind 21 = .ok (.iload_n 2, 1) := by decide +kernel
theorem dX0_crackedSetBehind_22 : decode cX0_crackedSetBehind 22 = .ok (.iconst 1, 1) := by decide +kernel
theorem dX0_crackedSetBehind_23 : decode cX0_crackedSetBehind 23 = .ok (.iload_n 3, 1) := by decide +kernel
theorem dX0_crackedSetBehind_24 : decode cX0_crackedSetBehind 24 = .ok (.ishl, 1) := by decide +kernel
theorem dX0_crackedSetBehind_25 : decode cX0_crackedSetBehind 25 = .ok (.ior, 1) := by decide +kernel
theorem dX0_crackedSetBehind_26 : decode cX0_crackedSetBehind 26 = .ok (.istore_n 2, 1) := by decide +kernel
theorem dX0_crackedSetBehind_27 : decode cX0_crackedSetBehind 27 = .ok (.iinc 3 1, 3) := by decide +kernel
theorem dX0_crackedSetBehind_30 : decode cX0_crackedSetBehind 30 = .ok (.goto (-26), 3) := by decide +kernel
theorem dX0_crackedSetBehind_33 : decode cX0_crackedSetBehind 33 = .ok (.iload_n 2, 1) := by decide +kernel
theorem dX0_crackedSetBehind_34 : decode cX0_crackedSetBehind 34 = .ok (.ireturn, 1) := by decide +kernel
theorem dX0_crackedSet_0 : decode cX0_crackedSet 0 = .ok (.iconst 0, 1) := by decide +kernel
theorem dX0_crackedSet_1 : decode cX0_crackedSet 1 = .ok (.istore_n 1, 1) := by decide +kernel
theorem dX0_crackedSet_2 : decode cX0_crackedSet 2 = .ok (.iconst 0, 1) := by decide +kernel
theorem dX0_crackedSet_3 : decode cX0_crackedSet 3 = .ok (.istore_n 2, 1) := by decide +kernel
theorem dX0_crackedSet_4 : decode cX0_crackedSet 4 = .ok (.iload_n 2, 1) := by decide +kernel
theorem dX0_crackedSet_5 : decode cX0_crackedSet 5 = .ok (.aload_n 0, 1) := by decide +kernel
theorem dX0_crackedSet_6 : decode cX0_crackedSet 6 = .ok (.getfield 25, 3) := by decide +kernel
theorem dX0_crackedSet_9 : decode cX0_crackedSet 9 = .ok (.if_icmp .ge 24, 3) := by decide +kernel
theorem dX0_crackedSet_12 : decode cX0_crackedSet 12 = .ok (.aload_n 0, 1) := by decide +kernel
theorem dX0_crackedSet_13 : decode cX0_crackedSet 13 = .ok (.getfield 15, 3) := by decide +kernel
theorem dX0_crackedSet_16 : decode cX0_crackedSet 16 = .ok (.iload_n 2, 1) := by decide +kernel
theorem dX0_crackedSet_17 : decode cX0_crackedSet 17 = .ok (.iaload, 1) := by decide +kernel
theorem dX0_crackedSet_18 : decode cX0_crackedSet 18 = .ok (.ifCond .ne 9, 3) := by decide +kernel
theorem dX0_crackedSet_21 : decode cX0_crackedSet 21 = .ok (.iload_n 1, 1) := by decide +kernel
theorem dX0_crackedSet_22 : decode cX0_crackedSet 22 = .ok (.iconst 1, 1) := by decide +kernel
theorem dX0_crackedSet_23 : decode cX0_crackedSet 23 = .ok (.iload_n 2, 1) := by decide +kernel
theorem dX0_crackedSet_24 : decode cX0_crackedSet 24 = .ok (.ishl, 1) := by decide +kernel
theorem dX0_crackedSet_25 : decode cX0_crackedSet 25 = .ok (.ior, 1) := by decide +kernel
theorem dX0_crackedSet_26 : decode cX0_crackedSet 26 = .ok (.istore_n 1, 1) := by decide +kernel
theorem dX0_crackedSet_27 : decode cX0_crackedSet 27 = .ok (.iinc 2 1, 3) := by decide +kernel
theorem dX0_crackedSet_30 : decode cX0_crackedSet 30 = .ok (.goto (-26), 3) := by decide +kernel
theorem dX0_crackedSet_33 : decode cX0_crackedSet 33 = .ok (.iload_n 1, 1) := by decide +kernel
theorem dX0_crackedSet_34 : decode cX0_crackedSet 34 = .ok (.ireturn, 1) := by decide +kernel
theorem dX0_wetSet_0 : decode cX0_wetSet 0 = .ok (.aload_n 0, 1) := by decide +kernel
theorem dX0_wetSet_1 : decode cX0_wetSet 1 = .ok (.getfield 31, 3) := by decide +kernel
theorem dX0_wetSet_4 : decode cX0_wetSet 4 = .ok (.aload_n 0, 1) := by decide +kernel
theorem dX0_wetSet_5 : decode cX0_wetSet 5 = .ok (.invokevirtual 77, 3) := by decide +kernel
theorem dX0_wetSet_8 : decode cX0_wetSet 8 = .ok (.iconst (-1), 1) := by decide +kernel
theorem dX0_wetSet_9 : decode cX0_wetSet 9 = .ok (.ixor, 1) := by decide +kernel
theorem dX0_wetSet_10 : decode cX0_wetSet 10 = .ok (.iand, 1) := by decide +kernel
theorem dX0_wetSet_11 : decode cX0_wetSet 11 = .ok (.ireturn, 1) := by decide +kernel
theorem dX0_beside_0 : decode cX0_beside 0 = .ok (.iload_n 1, 1) := by decide +kernel
theorem dX0_beside_1 : decode cX0_beside 1 = .ok (.aload_n 0, 1) := by decide +kernel
theorem dX0_beside_2 : decode cX0_beside 2 = .ok (.getfield 37, 3) := by decide +kernel
theorem dX0_beside_5 : decode cX0_beside 5 = .ok (.iconst (-1), 1) := by decide +kernel
theorem dX0_beside_6 : decode cX0_beside 6 = .ok (.ixor, 1) := by decide +kernel
theorem dX0_beside_7 : decode cX0_beside 7 = .ok (.iand, 1) := by decide +kernel
theorem dX0_beside_8 : decode cX0_beside 8 = .ok (.iconst 1, 1) := by decide +kernel
theorem dX0_beside_9 : decode cX0_beside 9 = .ok (.ishl, 1) := by decide +kernel
theorem dX0_beside_10 : decode cX0_beside 10 = .ok (.iload_n 1, 1) := by decide +kernel
theorem dX0_beside_11 : decode cX0_beside 11 = .ok (.aload_n 0, 1) := by decide +kernel
theorem dX0_beside_12 : decode cX0_beside 12 = .ok (.getfield 34, 3) := by decide +kernel
theorem dX0_beside_15 : decode cX0_beside 15 = .ok (.iconst (-1), 1) := by decide +kernel
theorem dX0_beside_16 : decode cX0_beside 16 = .ok (.ixor, 1) := by decide +kernel
theorem dX0_beside_17 : decode cX0_beside 17 = .ok (.iand, 1) := by decide +kernel
theorem dX0_beside_18 : decode cX0_beside 18 = .ok (.iconst 1, 1) := by decide +kernel
theorem dX0_beside_19 : decode cX0_beside 19 = .ok (.ishr, 1) := by decide +kernel
theorem dX0_beside_20 : decode cX0_beside 20 = .ok (.ior, 1) := by decide +kernel
theorem dX0_beside_21 : decode cX0_beside 21 = .ok (.istore_n 2, 1) := by decide +kernel
theorem dX0_beside_22 : decode cX0_beside 22 = .ok (.iload_n 1, 1) := by decide +kernel
theorem dX0_beside_23 : decode cX0_beside 23 = .ok (.aload_n 0, 1) := by decide +kernel
theorem dX0_beside_24 : decode cX0_beside 24 = .ok (.getfield 18, 3) := by decide +kernel
theorem dX0_beside_27 : decode cX0_beside 27 = .ok (.ishl, 1) := by decide +kernel
theorem dX0_beside_28 : decode cX0_beside 28 = .ok (.iload_n 1, 1) := by decide +kernel
theorem dX0_beside_29 : decode cX0_beside 29 = .ok (.aload_n 0, 1) := by decide +kernel
theorem dX0_beside_30 : decode cX0_beside 30 = .ok (.getfield 18, 3) := by decide +kernel
theorem dX0_beside_33 : decode cX0_beside 33 = .ok (.ishr, 1) := by decide +kernel
theorem dX0_beside_34 : decode cX0_beside 34 = .ok (.ior, 1) := by decide +kernel
theorem dX0_beside_35 : decode cX0_beside 35 = .ok (.istore_n 3, 1) := by decide +kernel
theorem dX0_beside_36 : decode cX0_beside 36 = .ok (.iload_n 2, 1) := by decide +kernel
theorem dX0_beside_37 : decode cX0_beside 37 = .ok (.iload_n 3, 1) := by decide +kernel
theorem dX0_beside_38 : decode cX0_beside 38 = .ok (.ior, 1) := by decide +kernel
theorem dX0_beside_39 : decode cX0_beside 39 = .ok (.aload_n 0, 1) := by decide +kernel
theorem dX0_beside_40 : decode cX0_beside 40 = .ok (.getfield 31, 3) := by decide +kernel
theorem dX0_beside_43 : decode cX0_beside 43 = .ok (.iand, 1) := by decide +kernel
theorem dX0_beside_44 : decode cX0_beside 44 = .ok (.ireturn, 1) := by decide +kernel
theorem dX0_hanging_0 : decode cX0_hanging 0 = .ok (.iload_n 1, 1) := by decide +kernel
theorem dX0_hanging_1 : decode cX0_hanging 1 = .ok (.iload_n 2, 1) := by decide +kernel
theorem dX0_hanging_2 : decode cX0_hanging 2 = .ok (.iand, 1) := by decide +kernel
theorem dX0_hanging_3 : decode cX0_hanging 3 = .ok (.istore_n 3, 1) := by decide +kernel
theorem dX0_hanging_4 : decode cX0_hanging 4 = .ok (.iconst 0, 1) := by decide +kernel
theorem dX0_hanging_5 : decode cX0_hanging 5 = .ok (.istore 4, 2) := by decide +kernel
theorem dX0_hanging_7 : decode cX0_hanging 7 = .ok (.iload 4, 2) := by decide +kernel
theorem dX0_hanging_9 : decode cX0_hanging 9 = .ok (.aload_n 0, 1) := by decide +kernel
theorem dX0_hanging_10 : decode cX0_hanging 10 = .ok (.getfield 25, 3) := by decide +kernel
theorem dX0_hanging_13 : decode cX0_hanging 13 = .ok (.if_icmp .ge 32, 3) := by decide +kernel
theorem dX0_hanging_16 : decode cX0_hanging 16 = .ok (.iload_n 3, 1) := by decide +kernel
theorem dX0_hanging_17 : decode cX0_hanging 17 = .ok (.aload_n 0, 1) := by decide +kernel
theorem dX0_hanging_18 : decode cX0_hanging 18 = .ok (.iload_n 3, 1) := by decide +kernel
theorem dX0_hanging_19 : decode cX0_hanging 19 = .ok (.invokevirtual 81, 3) := by decide +kernel
theorem dX0_hanging_22 : decode cX0_hanging 22 = .ok (.ior, 1) := by decide +kernel
theorem dX0_hanging_23 : decode cX0_hanging 23 = .ok (.iload_n 2, 1) := by decide +kernel
theorem dX0_hanging_24 : decode cX0_hanging 24 = .ok (.iand, 1) := by decide +kernel
theorem dX0_hanging_25 : decode cX0_hanging 25 = .ok (.istore 5, 2) := by decide +kernel
theorem dX0_hanging_27 : decode cX0_hanging 27 = .ok (.iload 5, 2) := by decide +kernel
theorem dX0_hanging_29 : decode cX0_hanging 29 = .ok (.iload_n 3, 1) := by decide +kernel
theorem dX0_hanging_30 : decode cX0_hanging 30 = .ok (.if_icmp .ne 6, 3) := by decide +kernel
theorem dX0_hanging_33 : decode cX0_hanging 33 = .ok (.goto 12, 3) := by decide +kernel
theorem dX0_hanging_36 : decode cX0_hanging 36 = .ok (.iload 5, 2) := by decide +kernel
theorem dX0_hanging_38 : decode cX0_hanging 38 = .ok (.istore_n 3, 1) := by decide +kernel
theorem dX0_hanging_39 : decode cX0_hanging 39 = .ok (.iinc 4 1, 3) := by decide +kernel
theorem dX0_hanging_42 : decode cX0_hanging 42 = .ok (.goto (-35), 3) := by decide +kernel
theorem dX0_hanging_45 : decode cX0_hanging 45 = .ok (.iload_n 3, 1) := by decide +kernel
theorem dX0_hanging_46 : decode cX0_hanging 46 = .ok (.ireturn, 1) := by decide +kernel
theorem dX0_isOpenBy_0 : decode cX0_isOpenBy 0 = .ok (.iconst 1, 1) := by decide +kernel
theorem dX0_isOpenBy_1 : decode cX0_isOpenBy 1 = .ok (.aload_n 0, 1) := by decide +kernel
theorem dX0_isOpenBy_2 : decode cX0_isOpenBy 2 = .ok (.getfield 18, 3) := by decide +kernel
theorem dX0_isOpenBy_5 : decode cX0_isOpenBy 5 = .ok (.ishl, 1) := by decide +kernel
theorem dX0_isOpenBy_6 : decode cX0_isOpenBy 6 = .ok (.iconst 1, 1) := by decide +kernel
theorem dX0_isOpenBy_7 : decode cX0_isOpenBy 7 = .ok (.isub, 1) := by decide +kernel
theorem dX0_isOpenBy_8 : decode cX0_isOpenBy 8 = .ok (.istore_n 2, 1) := by decide +kernel
theorem dX0_isOpenBy_9 : decode cX0_isOpenBy 9 = .ok (.iload_n 2, 1) := by decide +kernel
theorem dX0_isOpenBy_10 : decode cX0_isOpenBy 10 = .ok (.aload_n 0, 1) := by decide +kernel
theorem dX0_isOpenBy_11 : decode cX0_isOpenBy 11 = .ok (.getfield 25, 3) := by decide +kernel
theorem dX0_isOpenBy_14 : decode cX0_isOpenBy 14 = .ok (.aload_n 0, 1) := by decide +kernel
theorem dX0_isOpenBy_15 : decode cX0_isOpenBy 15 = .ok (.getfield 18, 3) := by decide +kernel
theorem dX0_isOpenBy_18 : decode cX0_isOpenBy 18 = .ok (.isub, 1) := by decide +kernel
theorem dX0_isOpenBy_19 : decode cX0_isOpenBy 19 = .ok (.ishl, 1) := by decide +kernel
theorem dX0_isOpenBy_20 : decode cX0_isOpenBy 20 = .ok (.istore_n 3, 1) := by decide +kernel
theorem dX0_isOpenBy_21 : decode cX0_isOpenBy 21 = .ok (.aload_n 0, 1) := by decide +kernel
theorem dX0_isOpenBy_22 : decode cX0_isOpenBy 22 = .ok (.iload_n 2, 1) := by decide +kernel
theorem dX0_isOpenBy_23 : decode cX0_isOpenBy 23 = .ok (.iload_n 1, 1) := by decide +kernel
theorem dX0_isOpenBy_24 : decode cX0_isOpenBy 24 = .ok (.invokevirtual 84, 3) := by decide +kernel
theorem dX0_isOpenBy_27 : decode cX0_isOpenBy 27 = .ok (.iload_n 3, 1) := by decide +kernel
theorem dX0_isOpenBy_28 : decode cX0_isOpenBy 28 = .ok (.iand, 1) := by decide +kernel
theorem dX0_isOpenBy_29 : decode cX0_isOpenBy 29 = .ok (.ifCond .eq 7, 3) := by decide +kernel
theorem dX0_isOpenBy_32 : decode cX0_isOpenBy 32 = .ok (.iconst 1, 1) := by decide +kernel
theorem dX0_isOpenBy_33 : decode cX0_isOpenBy 33 = .ok (.goto 4, 3) := by decide +kernel
theorem dX0_isOpenBy_36 : decode cX0_isOpenBy 36 = .ok (.iconst 0, 1) := by decide +kernel
theorem dX0_isOpenBy_37 : decode cX0_isOpenBy 37 = .ok (.ireturn, 1) := by decide +kernel
theorem dX0_fewestSteps_0 : decode cX0_fewestSteps 0 = .ok (.aload_n 0, 1) := by decide +kernel
theorem dX0_fewestSteps_1 : decode cX0_fewestSteps 1 = .ok (.invokevirtual 77, 3) := by decide +kernel
theorem dX0_fewestSteps_4 : decode cX0_fewestSteps 4 = .ok (.istore_n 3, 1) := by decide +kernel
theorem dX0_fewestSteps_5 : decode cX0_fewestSteps 5 = .ok (.iconst 1, 1) := by decide +kernel
theorem dX0_fewestSteps_6 : decode cX0_fewestSteps 6 = .ok (.iload_n 1, 1) := by decide +kernel
theorem dX0_fewestSteps_7 : decode cX0_fewestSteps 7 = .ok (.ishl, 1) := by decide +kernel
theorem dX0_fewestSteps_8 : decode cX0_fewestSteps 8 = .ok (.iload_n 3, 1) := by decide +kernel
theorem dX0_fewestSteps_9 : decode cX0_fewestSteps 9 = .ok (.iand, 1) := by decide +kernel
theorem dX0_fewestSteps_10 : decode cX0_fewestSteps 10 = .ok (.istore 4, 2) := by decide +kernel
theorem dX0_fewestSteps_12 : decode cX0_fewestSteps 12 = .ok (.iconst 0, 1) := by decide +kernel
theorem dX0_fewestSteps_13 : decode cX0_fewestSteps 13 = .ok (.istore 5, 2) := by decide +kernel
theorem dX0_fewestSteps_15 : decode cX0_fewestSteps 15 = .ok (.iload 5, 2) := by decide +kernel
theorem dX0_fewestSteps_17 : decode cX0_fewestSteps 17 = .ok (.aload_n 0, 1) := by decide +kernel
theorem dX0_fewestSteps_18 : decode cX0_fewestSteps 18 = .ok (.getfield 25, 3) := by decide +kernel
theorem dX0_fewestSteps_21 : decode cX0_fewestSteps 21 = .ok (.if_icmp .ge 34, 3) := by decide +kernel
theorem dX0_fewestSteps_24 : decode cX0_fewestSteps 24 = .ok (.iload 4, 2) := by decide +kernel
theorem dX0_fewestSteps_26 : decode cX0_fewestSteps 26 = .ok (.iconst 1, 1) := by decide +kernel
theorem dX0_fewestSteps_27 : decode cX0_fewestSteps 27 = .ok (.iload_n 2, 1) := by decide +kernel
theorem dX0_fewestSteps_28 : decode cX0_fewestSteps 28 = .ok (.ishl, 1) := by decide +kernel
theorem dX0_fewestSteps_29 : decode cX0_fewestSteps 29 = .ok (.iand, 1) := by decide +kernel
theorem dX0_fewestSteps_30 : decode cX0_fewestSteps 30 = .ok (.ifCond .eq 6, 3) := by decide +kernel
theorem dX0_fewestSteps_33 : decode cX0_fewestSteps 33 = .ok (.iload 5, 2) := by decide +kernel
theorem dX0_fewestSteps_35 : decode cX0_fewestSteps 35 = .ok (.ireturn, 1) := by decide +kernel
theorem dX0_fewestSteps_36 : decode cX0_fewestSteps 36 = .ok (.iload 4, 2) := by decide +kernel
theorem dX0_fewestSteps_38 : decode cX0_fewestSteps 38 = .ok (.aload_n 0, 1) := by decide +kernel
theorem dX0_fewestSteps_39 : decode cX0_fewestSteps 39 = .ok (.iload 4, 2) := by decide +kernel
theorem dX0_fewestSteps_41 : decode cX0_fewestSteps 41 = .ok (.invokevirtual 81, 3) := by decide +kernel
theorem dX0_fewestSteps_44 : decode cX0_fewestSteps 44 = .ok (.ior, 1) := by decide +kernel
theorem dX0_fewestSteps_45 : decode cX0_fewestSteps 45 = .ok (.iload_n 3, 1) := by decide +kernel
theorem dX0_fewestSteps_46 : decode cX0_fewestSteps 46 = .ok (.iand, 1) := by decide +kernel
theorem dX0_fewestSteps_47 : decode cX0_fewestSteps 47 = .ok (.istore 4, 2) := by decide +kernel
theorem dX0_fewestSteps_49 : decode cX0_fewestSteps 49 = .ok (.iinc 5 1, 3) := by decide +kernel
theorem dX0_fewestSteps_52 : decode cX0_fewestSteps 52 = .ok (.goto (-37), 3) := by decide +kernel
theorem dX0_fewestSteps_55 : decode cX0_fewestSteps 55 = .ok (.bipush (-9), 2) := by decide +kernel
theorem dX0_fewestSteps_57 : decode cX0_fewestSteps 57 = .ok (.ireturn, 1) := by decide +kernel
theorem dX0_howManyPieces_0 : decode cX0_howManyPieces 0 = .ok (.aload_n 0, 1) := by decide +kernel
theorem dX0_howManyPieces_1 : decode cX0_howManyPieces 1 = .ok (.invokevirtual 87, 3) := by decide +kernel
theorem dX0_howManyPieces_4 : decode cX0_howManyPieces 4 = .ok (.istore_n 1, 1) := by decide +kernel
theorem dX0_howManyPieces_5 : decode cX0_howManyPieces 5 = .ok (.iconst 0, 1) := by decide +kernel
theorem dX0_howManyPieces_6 : decode cX0_howManyPieces 6 = .ok (.istore_n 2, 1) := by decide +kernel
theorem dX0_howManyPieces_7 : decode cX0_howManyPieces 7 = .ok (.iconst 0, 1) := by decide +kernel
theorem dX0_howManyPieces_8 : decode cX0_howManyPieces 8 = .ok (.istore_n 3, 1) := by decide +kernel
theorem dX0_howManyPieces_9 : decode cX0_howManyPieces 9 = .ok (.iload_n 3, 1) := by decide +kernel
theorem dX0_howManyPieces_10 : decode cX0_howManyPieces 10 = .ok (.aload_n 0, 1) := by decide +kernel
theorem dX0_howManyPieces_11 : decode cX0_howManyPieces 11 = .ok (.getfield 25, 3) := by decide +kernel
theorem dX0_howManyPieces_14 : decode cX0_howManyPieces 14 = .ok (.if_icmp .ge 30, 3) := by decide +kernel
theorem dX0_howManyPieces_17 : decode cX0_howManyPieces 17 = .ok (.iload_n 1, 1) := by decide +kernel
theorem dX0_howManyPieces_18 : decode cX0_howManyPieces 18 = .ok (.ifCond .eq 26, 3) := by decide +kernel
theorem dX0_howManyPieces_21 : decode cX0_howManyPieces 21 = .ok (.iload_n 1, 1) := by decide +kernel
theorem dX0_howManyPieces_22 : decode cX0_howManyPieces 22 = .ok (.aload_n 0, 1) := by decide +kernel
theorem dX0_howManyPieces_23 : decode cX0_howManyPieces 23 = .ok (.iload_n 1, 1) := by decide +kernel
theorem dX0_howManyPieces_24 : decode cX0_howManyPieces 24 = .ok (.invokestatic 90, 3) := by decide +kernel
theorem dX0_howManyPieces_27 : decode cX0_howManyPieces 27 = .ok (.iload_n 1, 1) := by decide +kernel
theorem dX0_howManyPieces_28 : decode cX0_howManyPieces 28 = .ok (.invokevirtual 84, 3) := by decide +kernel
theorem dX0_howManyPieces_31 : decode cX0_howManyPieces 31 = .ok (.iconst (-1), 1) := by decide +kernel
theorem dX0_howManyPieces_32 : decode cX0_howManyPieces 32 = .ok (.ixor, 1) := by decide +kernel
theorem dX0_howManyPieces_33 : decode cX0_howManyPieces 33 = .ok (.iand, 1) := by decide +kernel
theorem dX0_howManyPieces_34 : decode cX0_howManyPieces 34 = .ok (.istore_n 1, 1) := by decide +kernel
theorem dX0_howManyPieces_35 : decode cX0_howManyPieces 35 = .ok (.iinc 2 1, 3) := by decide +kernel
theorem dX0_howManyPieces_38 : decode cX0_howManyPieces 38 = .ok (.iinc 3 1, 3) := by decide +kernel
theorem dX0_howManyPieces_41 : decode cX0_howManyPieces 41 = .ok (.goto (-32), 3) := by decide +kernel
theorem dX0_howManyPieces_44 : decode cX0_howManyPieces 44 = .ok (.iload_n 2, 1) := by decide +kernel
theorem dX0_howManyPieces_45 : decode cX0_howManyPieces 45 = .ok (.ireturn, 1) := by decide +kernel
theorem dX0_greatestPiece_0 : decode cX0_greatestPiece 0 = .ok (.aload_n 0, 1) := by decide +kernel
theorem dX0_greatestPiece_1 : decode cX0_greatestPiece 1 = .ok (.invokevirtual 87, 3) := by decide +kernel
theorem dX0_greatestPiece_4 : decode cX0_greatestPiece 4 = .ok (.istore_n 1, 1) := by decide +kernel
theorem dX0_greatestPiece_5 : decode cX0_greatestPiece 5 = .ok (.iconst 0, 1) := by decide +kernel
theorem dX0_greatestPiece_6 : decode cX0_greatestPiece 6 = .ok (.istore_n 2, 1) := by decide +kernel
theorem dX0_greatestPiece_7 : decode cX0_greatestPiece 7 = .ok (.iconst 0, 1) := by decide +kernel
theorem dX0_greatestPiece_8 : decode cX0_greatestPiece 8 = .ok (.istore_n 3, 1) := by decide +kernel
theorem dX0_greatestPiece_9 : decode cX0_greatestPiece 9 = .ok (.iload_n 3, 1) := by decide +kernel
theorem dX0_greatestPiece_10 : decode cX0_greatestPiece 10 = .ok (.aload_n 0, 1) := by decide +kernel
theorem dX0_greatestPiece_11 : decode cX0_greatestPiece 11 = .ok (.getfield 25, 3) := by decide +kernel
theorem dX0_greatestPiece_14 : decode cX0_greatestPiece 14 = .ok (.if_icmp .ge 41, 3) := by decide +kernel
theorem dX0_greatestPiece_17 : decode cX0_greatestPiece 17 = .ok (.iload_n 1, 1) := by decide +kernel
theorem dX0_greatestPiece_18 : decode cX0_greatestPiece 18 = .ok (.ifCond .eq 37, 3) := by decide +kernel
theorem dX0_greatestPiece_21 : decode cX0_greatestPiece 21 = .ok (.aload_n 0, 1) := by decide +kernel
theorem dX0_greatestPiece_22 : decode cX0_greatestPiece 22 = .ok (.iload_n 1, 1) := by decide +kernel
theorem dX0_greatestPiece_23 : decode cX0_greatestPiece 23 = .ok (.invokestatic 90, 3) := by decide +kernel
theorem dX0_greatestPiece_26 : decode cX0_greatestPiece 26 = .ok (.iload_n 1, 1) := by decide +kernel
theorem dX0_greatestPiece_27 : decode cX0_greatestPiece 27 = .ok (.invokevirtual 84, 3) := by decide +kernel
theorem dX0_greatestPiece_30 : decode cX0_greatestPiece 30 = .ok (.istore 4, 2) := by decide +kernel
theorem dX0_greatestPiece_32 : decode cX0_greatestPiece 32 = .ok (.iload_n 2, 1) := by decide +kernel
theorem dX0_greatestPiece_33 : decode cX0_greatestPiece 33 = .ok (.iload 4, 2) := by decide +kernel
theorem dX0_greatestPiece_35 : decode cX0_greatestPiece 35 = .ok (.invokestatic 95, 3) := by decide +kernel
theorem dX0_greatestPiece_38 : decode cX0_greatestPiece 38 = .ok (.invokestatic 66, 3) := by decide +kernel
theorem dX0_greatestPiece_41 : decode cX0_greatestPiece 41 = .ok (.istore_n 2, 1) := by decide +kernel
theorem dX0_greatestPiece_42 : decode cX0_greatestPiece 42 = .ok (.iload_n 1, 1) := by decide +kernel
theorem dX0_greatestPiece_43 : decode cX0_greatestPiece 43 = .ok (.iload 4, 2) := by decide +kernel
theorem dX0_greatestPiece_45 : decode cX0_greatestPiece 45 = .ok (.iconst (-1), 1) := by decide +kernel
theorem dX0_greatestPiece_46 : decode cX0_greatestPiece 46 = .ok (.ixor, 1) := by decide +kernel
theorem dX0_greatestPiece_47 : decode cX0_greatestPiece 47 = .ok (.iand, 1) := by decide +kernel
theorem dX0_greatestPiece_48 : decode cX0_greatestPiece 48 = .ok (.istore_n 1, 1) := by decide +kernel
theorem dX0_greatestPiece_49 : decode cX0_greatestPiece 49 = .ok (.iinc 3 1, 3) := by decide +kernel
theorem dX0_greatestPiece_52 : decode cX0_greatestPiece 52 = .ok (.goto (-43), 3) := by decide +kernel
theorem dX0_greatestPiece_55 : decode cX0_greatestPiece 55 = .ok (.iload_n 2, 1) := by decide +kernel
theorem dX0_greatestPiece_56 : decode cX0_greatestPiece 56 = .ok (.ireturn, 1) := by decide +kernel
theorem dX0_fewestBars_0 : decode cX0_fewestBars 0 = .ok (.iconst 0, 1) := by decide +kernel
theorem dX0_fewestBars_1 : decode cX0_fewestBars 1 = .ok (.istore_n 2, 1) := by decide +kernel
theorem dX0_fewestBars_2 : decode cX0_fewestBars 2 = .ok (.bipush 13, 2) := by decide +kernel
theorem dX0_fewestBars_4 : decode cX0_fewestBars 4 = .ok (.istore_n 3, 1) := by decide +kernel
theorem dX0_fewestBars_5 : decode cX0_fewestBars 5 = .ok (.iconst 0, 1) := by decide +kernel
theorem dX0_fewestBars_6 : decode cX0_fewestBars 6 = .ok (.istore 4, 2) := by decide +kernel
theorem dX0_fewestBars_8 : decode cX0_fewestBars 8 = .ok (.iload 4, 2) := by decide +kernel
theorem dX0_fewestBars_10 : decode cX0_fewestBars 10 = .ok (.aload_n 0, 1) := by decide +kernel
theorem dX0_fewestBars_11 : decode cX0_fewestBars 11 = .ok (.getfield 31, 3) := by decide +kernel
theorem dX0_fewestBars_14 : decode cX0_fewestBars 14 = .ok (.if_icmp .gt 61, 3) := by decide +kernel
theorem dX0_fewestBars_17 : decode cX0_fewestBars 17 = .ok (.iload 4, 2) := by decide +kernel
theorem dX0_fewestBars_19 : decode cX0_fewestBars 19 = .ok (.iload_n 1, 1) := by decide +kernel
theorem dX0_fewestBars_20 : decode cX0_fewestBars 20 = .ok (.iconst (-1), 1) := by decide +kernel
theorem dX0_fewestBars_21 : decode cX0_fewestBars 21 = .ok (.ixor, 1) := by decide +kernel
theorem dX0_fewestBars_22 : decode cX0_fewestBars 22 = .ok (.iand, 1) := by decide +kernel
theorem dX0_fewestBars_23 : decode cX0_fewestBars 23 = .ok (.ifCond .ne 16, 3) := by decide +kernel
theorem dX0_fewestBars_26 : decode cX0_fewestBars 26 = .ok (.iload 4, 2) := by decide +kernel
theorem dX0_fewestBars_28 : decode cX0_fewestBars 28 = .ok (.invokestatic 95, 3) := by decide +kernel
theorem dX0_fewestBars_31 : decode cX0_fewestBars 31 = .ok (.iload_n 3, 1) := by decide +kernel
theorem dX0_fewestBars_32 : decode cX0_fewestBars 32 = .ok (.if_icmp .ge 7, 3) := by decide +kernel
theorem dX0_fewestBars_35 : decode cX0_fewestBars 35 = .ok (.iconst 1, 1) := by decide +kernel
theorem dX0_fewestBars_36 : decode cX0_fewestBars 36 = .ok (.goto 4, 3) := by decide +kernel
theorem dX0_fewestBars_39 : decode cX0_fewestBars 39 = .ok (.iconst 0, 1) := by decide +kernel
theorem dX0_fewestBars_40 : decode cX0_fewestBars 40 = .ok (.istore 5, 2) := by decide +kernel
theorem dX0_fewestBars_42 : decode cX0_fewestBars 42 = .ok (.iload 5, 2) := by decide +kernel
theorem dX0_fewestBars_44 : decode cX0_fewestBars 44 = .ok (.ifCond .eq 25, 3) := by decide +kernel
theorem dX0_fewestBars_47 : decode cX0_fewestBars 47 = .ok (.aload_n 0, 1) := by decide +kernel
theorem dX0_fewestBars_48 : decode cX0_fewestBars 48 = .ok (.iload_n 1, 1) := by decide +kernel
theorem dX0_fewestBars_49 : decode cX0_fewestBars 49 = .ok (.iload 4, 2) := by decide +kernel
theorem dX0_fewestBars_51 : decode cX0_fewestBars 51 = .ok (.iconst (-1), 1) := by decide +kernel
theorem dX0_fewestBars_52 : decode cX0_fewestBars 52 = .ok (.ixor, 1) := by decide +kernel
theorem dX0_fewestBars_53 : decode cX0_fewestBars 53 = .ok (.iand, 1) := by decide +kernel
theorem dX0_fewestBars_54 : decode cX0_fewestBars 54 = .ok (.invokevirtual 98, 3) := by decide +kernel
theorem dX0_fewestBars_57 : decode cX0_fewestBars 57 = .ok (.ifCond .ne 12, 3) := by decide +kernel
theorem dX0_fewestBars_60 : decode cX0_fewestBars 60 = .ok (.iload 4, 2) := by decide +kernel
theorem dX0_fewestBars_62 : decode cX0_fewestBars 62 = .ok (.istore_n 2, 1) := by decide +kernel
theorem dX0_fewestBars_63 : decode cX0_fewestBars 63 = .ok (.iload 4, 2) := by decide +kernel
theorem dX0_fewestBars_65 : decode cX0_fewestBars 65 = .ok (.invokestatic 95, 3) := by decide +kernel
theorem dX0_fewestBars_68 : decode cX0_fewestBars 68 = .ok (.istore_n 3, 1) := by decide +kernel
theorem dX0_fewestBars_69 : decode cX0_fewestBars 69 = .ok (.iinc 4 1, 3) := by decide +kernel
theorem dX0_fewestBars_72 : decode cX0_fewestBars 72 = .ok (.goto (-64), 3) := by decide +kernel
theorem dX0_fewestBars_75 : decode cX0_fewestBars 75 = .ok (.iload_n 2, 1) := by decide +kernel
theorem dX0_fewestBars_76 : decode cX0_fewestBars 76 = .ok (.ireturn, 1) := by decide +kernel
theorem dX0_openWays_0 : decode cX0_openWays 0 = .ok (.aload_n 0, 1) := by decide +kernel
theorem dX0_openWays_1 : decode cX0_openWays 1 = .ok (.invokevirtual 77, 3) := by decide +kernel
theorem dX0_openWays_4 : decode cX0_openWays 4 = .ok (.istore_n 1, 1) := by decide +kernel
theorem dX0_openWays_5 : decode cX0_openWays 5 = .ok (.aload_n 0, 1) := by decide +kernel
theorem dX0_openWays_6 : decode cX0_openWays 6 = .ok (.invokevirtual 87, 3) := by decide +kernel
theorem dX0_openWays_9 : decode cX0_openWays 9 = .ok (.istore_n 2, 1) := by decide +kernel
theorem dX0_openWays_10 : decode cX0_openWays 10 = .ok (.iconst 0, 1) := by decide +kernel
theorem dX0_openWays_11 : decode cX0_openWays 11 = .ok (.istore_n 3, 1) := by decide +kernel
theorem dX0_openWays_12 : decode cX0_openWays 12 = .ok (.iload_n 2, 1) := by decide +kernel
theorem dX0_openWays_13 : decode cX0_openWays 13 = .ok (.istore 4, 2) := by decide +kernel
theorem dX0_openWays_15 : decode cX0_openWays 15 = .ok (.iconst 1, 1) := by decide +kernel
theorem dX0_openWays_16 : decode cX0_openWays 16 = .ok (.iload_n 2, 1) := by decide +kernel
theorem dX0_openWays_17 : decode cX0_openWays 17 = .ok (.invokestatic 95, 3) := by decide +kernel
theorem dX0_openWays_20 : decode cX0_openWays 20 = .ok (.ishl, 1) := by decide +kernel
theorem dX0_openWays_21 : decode cX0_openWays 21 = .ok (.istore 5, 2) := by decide +kernel
theorem dX0_openWays_23 : decode cX0_openWays 23 = .ok (.iload 5, 2) := by decide +kernel
theorem dX0_openWays_25 : decode cX0_openWays 25 = .ok (.ifCond .le 31, 3) := by decide +kernel
theorem dX0_openWays_28 : decode cX0_openWays 28 = .ok (.aload_n 0, 1) := by decide +kernel
theorem dX0_openWays_29 : decode cX0_openWays 29 = .ok (.iload_n 1, 1) := by decide +kernel
theorem dX0_openWays_30 : decode cX0_openWays 30 = .ok (.iload 4, 2) := by decide +kernel
theorem dX0_openWays_32 : decode cX0_openWays 32 = .ok (.ior, 1) := by decide +kernel
theorem dX0_openWays_33 : decode cX0_openWays 33 = .ok (.invokevirtual 98, 3) := by decide +kernel
theorem dX0_openWays_36 : decode cX0_openWays 36 = .ok (.ifCond .eq 6, 3) := by decide +kernel
theorem dX0_openWays_39 : decode cX0_openWays 39 = .ok (.iinc 3 1, 3) := by decide +kernel
theorem dX0_openWays_42 : decode cX0_openWays 42 = .ok (.iload 4, 2) := by decide +kernel
theorem dX0_openWays_44 : decode cX0_openWays 44 = .ok (.iconst 1, 1) := by decide +kernel
theorem dX0_openWays_45 : decode cX0_openWays 45 = .ok (.isub, 1) := by decide +kernel
theorem dX0_openWays_46 : decode cX0_openWays 46 = .ok (.iload_n 2, 1) := by decide +kernel
theorem dX0_openWays_47 : decode cX0_openWays 47 = .ok (.iand, 1) := by decide +kernel
theorem dX0_openWays_48 : decode cX0_openWays 48 = .ok (.istore 4, 2) := by decide +kernel
theorem dX0_openWays_50 : decode cX0_openWays 50 = .ok (.iinc 5 (-1), 3) := by decide +kernel
theorem dX0_openWays_53 : decode cX0_openWays 53 = .ok (.goto (-30), 3) := by decide +kernel
theorem dX0_openWays_56 : decode cX0_openWays 56 = .ok (.iload_n 3, 1) := by decide +kernel
theorem dX0_openWays_57 : decode cX0_openWays 57 = .ok (.ireturn, 1) := by decide +kernel
theorem dX1_init_0 : decode cX1_init 0 = .ok (.aload_n 0, 1) := by decide +kernel
theorem dX1_init_1 : decode cX1_init 1 = .ok (.invokespecial 3, 3) := by decide +kernel
theorem dX1_init_4 : decode cX1_init 4 = .ok (.aload_n 0, 1) := by decide +kernel
theorem dX1_init_5 : decode cX1_init 5 = .ok (.bipush 8, 2) := by decide +kernel
theorem dX1_init_7 : decode cX1_init 7 = .ok (.newarray .int, 2) := by decide +kernel
theorem dX1_init_9 : decode cX1_init 9 = .ok (.putfield 9, 3) := by decide +kernel
theorem dX1_init_12 : decode cX1_init 12 = .ok (.aload_n 0, 1) := by decide +kernel
theorem dX1_init_13 : decode cX1_init 13 = .ok (.bipush 8, 2) := by decide +kernel
theorem dX1_init_15 : decode cX1_init 15 = .ok (.newarray .int, 2) := by decide +kernel
theorem dX1_init_17 : decode cX1_init 17 = .ok (.putfield 15, 3) := by decide +kernel
theorem dX1_init_20 : decode cX1_init 20 = .ok (.aload_n 0, 1) := by decide +kernel
theorem dX1_init_21 : decode cX1_init 21 = .ok (.bipush 8, 2) := by decide +kernel
theorem dX1_init_23 : decode cX1_init 23 = .ok (.newarray .int, 2) := by decide +kernel
theorem dX1_init_25 : decode cX1_init 25 = .ok (.putfield 18, 3) := by decide +kernel
theorem dX1_init_28 : decode cX1_init 28 = .ok (.aload_n 0, 1) := by decide +kernel
theorem dX1_init_29 : decode cX1_init 29 = .ok (.iconst 0, 1) := by decide +kernel
theorem dX1_init_30 : decode cX1_init 30 = .ok (.putfield 21, 3) := by decide +kernel
theorem dX1_init_33 : decode cX1_init 33 = .ok (.return_, 1) := by decide +kernel
theorem dX1_addOne_0 : decode cX1_addOne 0 = .ok (.aload_n 0, 1) := by decide +kernel
theorem dX1_addOne_1 : decode cX1_addOne 1 = .ok (.getfield 21, 3) := by decide +kernel
theorem dX1_addOne_4 : decode cX1_addOne 4 = .ok (.bipush 8, 2) := by decide +kernel
theorem dX1_addOne_6 : decode cX1_addOne 6 = .ok (.if_icmp .lt 6, 3) := by decide +kernel
theorem dX1_addOne_9 : decode cX1_addOne 9 = .ok (.bipush (-4), 2) := by decide +kernel
theorem dX1_addOne_11 : decode cX1_addOne 11 = .ok (.ireturn, 1) := by decide +kernel
theorem dX1_addOne_12 : decode cX1_addOne 12 = .ok (.aload_n 0, 1) := by decide +kernel
theorem dX1_addOne_13 : decode cX1_addOne 13 = .ok (.getfield 9, 3) := by decide +kernel
theorem dX1_addOne_16 : decode cX1_addOne 16 = .ok (.aload_n 0, 1) := by decide +kernel
theorem dX1_addOne_17 : decode cX1_addOne 17 = .ok (.getfield 21, 3) := by decide +kernel
theorem dX1_addOne_20 : decode cX1_addOne 20 = .ok (.iload_n 1, 1) := by decide +kernel
theorem dX1_addOne_21 : decode cX1_addOne 21 = .ok (.iastore, 1) := by decide +kernel
theorem dX1_addOne_22 : decode cX1_addOne 22 = .ok (.aload_n 0, 1) := by decide +kernel
theorem dX1_addOne_23 : decode cX1_addOne 23 = .ok (.getfield 15, 3) := by decide +kernel
theorem dX1_addOne_26 : decode cX1_addOne 26 = .ok (.aload_n 0, 1) := by decide +kernel
theorem dX1_addOne_27 : decode cX1_addOne 27 = .ok (.getfield 21, 3) := by decide +kernel
theorem dX1_addOne_30 : decode cX1_addOne 30 = .ok (.iload_n 2, 1) := by decide +kernel
theorem dX1_addOne_31 : decode cX1_addOne 31 = .ok (.iastore, 1) := by decide +kernel
theorem dX1_addOne_32 : decode cX1_addOne 32 = .ok (.aload_n 0, 1) := by decide +kernel
theorem dX1_addOne_33 : decode cX1_addOne 33 = .ok (.getfield 18, 3) := by decide +kernel
theorem dX1_addOne_36 : decode cX1_addOne 36 = .ok (.aload_n 0, 1) := by decide +kernel
theorem dX1_addOne_37 : decode cX1_addOne 37 = .ok (.getfield 21, 3) := by decide +kernel
theorem dX1_addOne_40 : decode cX1_addOne 40 = .ok (.iload_n 3, 1) := by decide +kernel
theorem dX1_addOne_41 : decode cX1_addOne 41 = .ok (.iastore, 1) := by decide +kernel
theorem dX1_addOne_42 : decode cX1_addOne 42 = .ok (.aload_n 0, 1) := by decide +kernel
theorem dX1_addOne_43 : decode cX1_addOne 43 = .ok (.dup, 1) := by decide +kernel
theorem dX1_addOne_44 : decode cX1_addOne 44 = .ok (.getfield 21, 3) := by decide +kernel
theorem dX1_addOne_47 : decode cX1_addOne 47 = .ok (.iconst 1, 1) := by decide +kernel
theorem dX1_addOne_48 : decode cX1_addOne 48 = .ok (.iadd, 1) := by decide +kernel
theorem dX1_addOne_49 : decode cX1_addOne 49 = .ok (.putfield 21, 3) := by decide +kernel
theorem dX1_addOne_52 : decode cX1_addOne 52 = .ok (.aload_n 0, 1) := by decide +kernel
theorem dX1_addOne_53 : decode cX1_addOne 53 = .ok (.getfield 21, 3) := by decide +kernel
theorem dX1_addOne_56 : decode cX1_addOne 56 = .ok (.iconst 1, 1) := by decide +kernel
theorem dX1_addOne_57 : decode cX1_addOne 57 = .ok (.isub, 1) := by decide +kernel
theorem dX1_addOne_58 : decode cX1_addOne 58 = .ok (.ireturn, 1) := by decide +kernel
theorem dX1_areSoIn_0 : decode cX1_areSoIn 0 = .ok (.iconst 0, 1) := by decide +kernel
theorem dX1_areSoIn_1 : decode cX1_areSoIn 1 = .ok (.istore_n 2, 1) := by decide +kernel
theorem dX1_areSoIn_2 : decode cX1_areSoIn 2 = .ok (.iload_n 2, 1) := by decide +kernel
theorem dX1_areSoIn_3 : decode cX1_areSoIn 3 = .ok (.aload_n 0, 1) := by decide +kernel
theorem dX1_areSoIn_4 : decode cX1_areSoIn 4 = .ok (.getfield 21, 3) := by decide +kernel
theorem dX1_areSoIn_7 : decode cX1_areSoIn 7 = .ok (.if_icmp .ge 47, 3) := by decide +kernel
theorem dX1_areSoIn_10 : decode cX1_areSoIn 10 = .ok (.aload_n 1, 1) := by decide +kernel
theorem dX1_areSoIn_11 : decode cX1_areSoIn 11 = .ok (.aload_n 0, 1) := by decide +kernel
theorem dX1_areSoIn_12 : decode cX1_areSoIn 12 = .ok (.getfield 9, 3) := by decide +kernel
theorem dX1_areSoIn_15 : decode cX1_areSoIn 15 = .ok (.iload_n 2, 1) := by decide +kernel
theorem dX1_areSoIn_16 : decode cX1_areSoIn 16 = .ok (.iaload, 1) := by decide +kernel
theorem dX1_areSoIn_17 : decode cX1_areSoIn 17 = .ok (.aload_n 0, 1) := by decide +kernel
theorem dX1_areSoIn_18 : decode cX1_areSoIn 18 = .ok (.getfield 15, 3) := by decide +kernel
theorem dX1_areSoIn_21 : decode cX1_areSoIn 21 = .ok (.iload_n 2, 1) := by decide +kernel
theorem dX1_areSoIn_22 : decode cX1_areSoIn 22 = .ok (.iaload, 1) := by decide +kernel
theorem dX1_areSoIn_23 : decode cX1_areSoIn 23 = .ok (.invokevirtual 25, 3) := by decide +kernel
theorem dX1_areSoIn_26 : decode cX1_areSoIn 26 = .ok (.istore_n 3, 1) := by decide +kernel
theorem dX1_areSoIn_27 : decode cX1_areSoIn 27 = .ok (.iload_n 3, 1) := by decide +kernel
theorem dX1_areSoIn_28 : decode cX1_areSoIn 28 = .ok (.aload_n 0, 1) := by decide +kernel
theorem dX1_areSoIn_29 : decode cX1_areSoIn 29 = .ok (.getfield 18, 3) := by decide +kernel
theorem dX1_areSoIn_32 : decode cX1_areSoIn 32 = .ok (.iload_n 2, 1) := by decide +kernel
theorem dX1_areSoIn_33 : decode cX1_areSoIn 33 = .ok (.iaload, 1) := by decide +kernel
theorem dX1_areSoIn_34 : decode cX1_areSoIn 34 = .ok (.iconst 1, 1) := by decide +kernel
theorem dX1_areSoIn_35 : decode cX1_areSoIn 35 = .ok (.if_icmp .ne 7, 3) := by decide +kernel
theorem dX1_areSoIn_38 : decode cX1_areSoIn 38 = .ok (.iconst 1, 1) := by decide +kernel
theorem dX1_areSoIn_39 : decode cX1_areSoIn 39 = .ok (.goto 4, 3) := by decide +kernel
theorem dX1_areSoIn_42 : decode cX1_areSoIn 42 = .ok (.iconst 0, 1) := by decide +kernel
theorem dX1_areSoIn_43 : decode cX1_areSoIn 43 = .ok (.if_icmp .eq 5, 3) := by decide +kernel
theorem dX1_areSoIn_46 : decode cX1_areSoIn 46 = .ok (.iconst 0, 1) := by decide +kernel
theorem dX1_areSoIn_47 : decode cX1_areSoIn 47 = .ok (.ireturn, 1) := by decide +kernel
theorem dX1_areSoIn_48 : decode cX1_areSoIn 48 = .ok (.iinc 2 1, 3) := by decide +kernel
theorem dX1_areSoIn_51 : decode cX1_areSoIn 51 = .ok (.goto (-49), 3) := by decide +kernel
theorem dX1_areSoIn_54 : decode cX1_areSoIn 54 = .ok (.iconst 1, 1) := by decide +kernel
theorem dX1_areSoIn_55 : decode cX1_areSoIn 55 = .ok (.ireturn, 1) := by decide +kernel
theorem dX2_init_0 : decode cX2_init 0 = .ok (.aload_n 0, 1) := by decide +kernel
theorem dX2_init_1 : decode cX2_init 1 = .ok (.invokespecial 3, 3) := by decide +kernel
theorem dX2_init_4 : decode cX2_init 4 = .ok (.aload_n 0, 1) := by decide +kernel
theorem dX2_init_5 : decode cX2_init 5 = .ok (.bipush 60, 2) := by decide +kernel
theorem dX2_init_7 : decode cX2_init 7 = .ok (.newarray .int, 2) := by decide +kernel
theorem dX2_init_9 : decode cX2_init 9 = .ok (.putfield 9, 3) := by decide +kernel
theorem dX2_init_12 : decode cX2_init 12 = .ok (.aload_n 0, 1) := by decide +kernel
theorem dX2_init_13 : decode cX2_init 13 = .ok (.iconst (-1), 1) := by decide +kernel
theorem dX2_init_14 : decode cX2_init 14 = .ok (.putfield 15, 3) := by decide +kernel
theorem dX2_init_17 : decode cX2_init 17 = .ok (.aload_n 0, 1) := by decide +kernel
theorem dX2_init_18 : decode cX2_init 18 = .ok (.iconst 0, 1) := by decide +kernel
theorem dX2_init_19 : decode cX2_init 19 = .ok (.putfield 19, 3) := by decide +kernel
theorem dX2_init_22 : decode cX2_init 22 = .ok (.return_, 1) := by decide +kernel
theorem dX2_isNothing_0 : decode cX2_isNothing 0 = .ok (.aload_n 0, 1) := by decide +kernel
theorem dX2_isNothing_1 : decode cX2_isNothing 1 = .ok (.getfield 15, 3) := by decide +kernel
theorem dX2_isNothing_4 : decode cX2_isNothing 4 = .ok (.iconst (-1), 1) := by decide +kernel
theorem dX2_isNothing_5 : decode cX2_isNothing 5 = .ok (.if_icmp .ne 7, 3) := by decide +kernel
theorem dX2_isNothing_8 : decode cX2_isNothing 8 = .ok (.iconst 1, 1) := by decide +kernel
theorem dX2_isNothing_9 : decode cX2_isNothing 9 = .ok (.goto 4, 3) := by decide +kernel
theorem dX2_isNothing_12 : decode cX2_isNothing 12 = .ok (.iconst 0, 1) := by decide +kernel
theorem dX2_isNothing_13 : decode cX2_isNothing 13 = .ok (.ireturn, 1) := by decide +kernel
theorem dX2_becomeNothing_0 : decode cX2_becomeNothing 0 = .ok (.aload_n 0, 1) := by decide +kernel
theorem dX2_becomeNothing_1 : decode cX2_becomeNothing 1 = .ok (.iconst (-1), 1) := by decide +kernel
theorem dX2_becomeNothing_2 : decode cX2_becomeNothing 2 = .ok (.putfield 15, 3) := by decide +kernel
theorem dX2_becomeNothing_5 : decode cX2_becomeNothing 5 = .ok (.aload_n 0, 1) := by decide +kernel
theorem dX2_becomeNothing_6 : decode cX2_becomeNothing 6 = .ok (.iconst 0, 1) := by decide +kernel
theorem dX2_becomeNothing_7 : decode cX2_becomeNothing 7 = .ok (.putfield 19, 3) := by decide +kernel
theorem dX2_becomeNothing_10 : decode cX2_becomeNothing 10 = .ok (.return_, 1) := by decide +kernel
theorem dX2_becomeRow_0 : decode cX2_becomeRow 0 = .ok (.aload_n 0, 1) := by decide +kernel
theorem dX2_becomeRow_1 : decode cX2_becomeRow 1 = .ok (.iload_n 1, 1) := by decide +kernel
theorem dX2_becomeRow_2 : decode cX2_becomeRow 2 = .ok (.putfield 15, 3) := by decide +kernel
theorem dX2_becomeRow_5 : decode cX2_becomeRow 5 = .ok (.aload_n 0, 1) := by decide +kernel
theorem dX2_becomeRow_6 : decode cX2_becomeRow 6 = .ok (.iload_n 2, 1) := by decide +kernel
theorem dX2_becomeRow_7 : decode cX2_becomeRow 7 = .ok (.putfield 19, 3) := by decide +kernel
theorem dX2_becomeRow_10 : decode cX2_becomeRow 10 = .ok (.iconst 0, 1) := by decide +kernel
theorem dX2_becomeRow_11 : decode cX2_becomeRow 11 = .ok (.istore_n 3, 1) := by decide +kernel
theorem dX2_becomeRow_12 : decode cX2_becomeRow 12 = .ok (.iload_n 3, 1) := by decide +kernel
theorem dX2_becomeRow_13 : decode cX2_becomeRow 13 = .ok (.bipush 60, 2) := by decide +kernel
theorem dX2_becomeRow_15 : decode cX2_becomeRow 15 = .ok (.if_icmp .ge 16, 3) := by decide +kernel
theorem dX2_becomeRow_18 : decode cX2_becomeRow 18 = .ok (.aload_n 0, 1) := by decide +kernel
theorem dX2_becomeRow_19 : decode cX2_becomeRow 19 = .ok (.getfield 9, 3) := by decide +kernel
theorem dX2_becomeRow_22 : decode cX2_becomeRow 22 = .ok (.iload_n 3, 1) := by decide +kernel
theorem dX2_becomeRow_23 : decode cX2_becomeRow 23 = .ok (.iconst 0, 1) := by decide +kernel
theorem dX2_becomeRow_24 : decode cX2_becomeRow 24 = .ok (.iastore, 1) := by decide +kernel
theorem dX2_becomeRow_25 : decode cX2_becomeRow 25 = .ok (.iinc 3 1, 3) := by decide +kernel
theorem dX2_becomeRow_28 : decode cX2_becomeRow 28 = .ok (.goto (-16), 3) := by decide +kernel
theorem dX2_becomeRow_31 : decode cX2_becomeRow 31 = .ok (.return_, 1) := by decide +kernel
theorem dX2_faultAs_0 : decode cX2_faultAs 0 = .ok (.aload_n 0, 1) := by decide +kernel
theorem dX2_faultAs_1 : decode cX2_faultAs 1 = .ok (.invokevirtual 22, 3) := by decide +kernel
theorem dX2_faultAs_4 : decode cX2_faultAs 4 = .ok (.ifCond .eq 5, 3) := by decide +kernel
theorem dX2_faultAs_7 : decode cX2_faultAs 7 = .ok (.iconst 1, 1) := by decide +kernel
theorem dX2_faultAs_8 : decode cX2_faultAs 8 = .ok (.ireturn, 1) := by decide +kernel
theorem dX2_faultAs_9 : decode cX2_faultAs 9 = .ok (.aload_n 0, 1) := by decide +kernel
theorem dX2_faultAs_10 : decode cX2_faultAs 10 = .ok (.getfield 15, 3) := by decide +kernel
theorem dX2_faultAs_13 : decode cX2_faultAs 13 = .ok (.iload_n 1, 1) := by decide +kernel
theorem dX2_faultAs_14 : decode cX2_faultAs 14 = .ok (.if_icmp .ne 7, 3) := by decide +kernel
theorem dX2_faultAs_17 : decode cX2_faultAs 17 = .ok (.iconst 0, 1) := by decide +kernel
theorem dX2_faultAs_18 : decode cX2_faultAs 18 = .ok (.goto 4, 3) := by decide +kernel
theorem dX2_faultAs_21 : decode cX2_faultAs 21 = .ok (.iconst 2, 1) := by decide +kernel
theorem dX2_faultAs_22 : decode cX2_faultAs 22 = .ok (.ireturn, 1) := by decide +kernel
theorem dX2_hasPlace_0 : decode cX2_hasPlace 0 = .ok (.iload_n 1, 1) := by decide +kernel
theorem dX2_hasPlace_1 : decode cX2_hasPlace 1 = .ok (.ifCond .lt 15, 3) := by decide +kernel
theorem dX2_hasPlace_4 : decode cX2_hasPlace 4 = .ok (.iload_n 1, 1) := by decide +kernel
theorem dX2_hasPlace_5 : decode cX2_hasPlace 5 = .ok (.aload_n 0, 1) := by decide +kernel
theorem dX2_hasPlace_6 : decode cX2_hasPlace 6 = .ok (.getfield 19, 3) := by decide +kernel
theorem dX2_hasPlace_9 : decode cX2_hasPlace 9 = .ok (.if_icmp .ge 7, 3) := by decide +kernel
theorem dX2_hasPlace_12 : decode cX2_hasPlace 12 = .ok (.iconst 1, 1) := by decide +kernel
theorem dX2_hasPlace_13 : decode cX2_hasPlace 13 = .ok (.goto 4, 3) := by decide +kernel
theorem dX2_hasPlace_16 : decode cX2_hasPlace 16 = .ok (.iconst 0, 1) := by decide +kernel
theorem dX2_hasPlace_17 : decode cX2_hasPlace 17 = .ok (.ireturn, 1) := by decide +kernel
theorem dX2_has_0 : decode cX2_has 0 = .ok (.iload_n 1, 1) := by decide +kernel
theorem dX2_has_1 : decode cX2_has 1 = .ok (.ifCond .lt 29, 3) := by decide +kernel
theorem dX2_has_4 : decode cX2_has 4 = .ok (.iload_n 1, 1) := by decide +kernel
theorem dX2_has_5 : decode cX2_has 5 = .ok (.aload_n 0, 1) := by decide +kernel
theorem dX2_has_6 : decode cX2_has 6 = .ok (.getfield 19, 3) := by decide +kernel
theorem dX2_has_9 : decode cX2_has 9 = .ok (.if_icmp .gt 21, 3) := by decide +kernel
theorem dX2_has_12 : decode cX2_has 12 = .ok (.iload_n 2, 1) := by decide +kernel
theorem dX2_has_13 : decode cX2_has 13 = .ok (.ifCond .lt 17, 3) := by decide +kernel
theorem dX2_has_16 : decode cX2_has 16 = .ok (.iload_n 2, 1) := by decide +kernel
theorem dX2_has_17 : decode cX2_has 17 = .ok (.aload_n 0, 1) := by decide +kernel
theorem dX2_has_18 : decode cX2_has 18 = .ok (.getfield 19, 3) := by decide +kernel
theorem dX2_has_21 : decode cX2_has 21 = .ok (.iload_n 1, 1) := by decide +kernel
theorem dX2_has_22 : decode cX2_has 22 = .ok (.isub, 1) := by decide +kernel
theorem dX2_has_23 : decode cX2_has 23 = .ok (.if_icmp .gt 7, 3) := by decide +kernel
theorem dX2_has_26 : decode cX2_has 26 = .ok (.iconst 1, 1) := by decide +kernel
theorem dX2_has_27 : decode cX2_has 27 = .ok (.goto 4, 3) := by decide +kernel
theorem dX2_has_30 : decode cX2_has 30 = .ok (.iconst 0, 1) := by decide +kernel
theorem dX2_has_31 : decode cX2_has 31 = .ok (.ireturn, 1) := by decide +kernel
theorem dX2_codeAt_0 : decode cX2_codeAt 0 = .ok (.aload_n 0, 1) := by decide +kernel
theorem dX2_codeAt_1 : decode cX2_codeAt 1 = .ok (.iload_n 1, 1) := by decide +kernel
theorem dX2_codeAt_2 : decode cX2_codeAt 2 = .ok (.invokevirtual 26, 3) := by decide +kernel
theorem dX2_codeAt_5 : decode cX2_codeAt 5 = .ok (.ifCond .eq 12, 3) := by decide +kernel
theorem dX2_codeAt_8 : decode cX2_codeAt 8 = .ok (.aload_n 0, 1) := by decide +kernel
theorem dX2_codeAt_9 : decode cX2_codeAt 9 = .ok (.getfield 9, 3) := by decide +kernel
theorem dX2_codeAt_12 : decode cX2_codeAt 12 = .ok (.iload_n 1, 1) := by decide +kernel
theorem dX2_codeAt_13 : decode cX2_codeAt 13 = .ok (.iaload, 1) := by decide +kernel
theorem dX2_codeAt_14 : decode cX2_codeAt 14 = .ok (.goto 4, 3) := by decide +kernel
theorem dX2_codeAt_17 : decode cX2_codeAt 17 = .ok (.iconst 0, 1) := by decide +kernel
theorem dX2_codeAt_18 : decode cX2_codeAt 18 = .ok (.ireturn, 1) := by decide +kernel
theorem dX2_setAt_0 : decode cX2_setAt 0 = .ok (.aload_n 0, 1) := by decide +kernel
theorem dX2_setAt_1 : decode cX2_setAt 1 = .ok (.iload_n 1, 1) := by decide +kernel
theorem dX2_setAt_2 : decode cX2_setAt 2 = .ok (.invokevirtual 26, 3) := by decide +kernel
theorem dX2_setAt_5 : decode cX2_setAt 5 = .ok (.ifCond .eq 14, 3) := by decide +kernel
theorem dX2_setAt_8 : decode cX2_setAt 8 = .ok (.aload_n 0, 1) := by decide +kernel
theorem dX2_setAt_9 : decode cX2_setAt 9 = .ok (.getfield 9, 3) := by decide +kernel
theorem dX2_setAt_12 : decode cX2_setAt 12 = .ok (.iload_n 1, 1) := by decide +kernel
theorem dX2_setAt_13 : decode cX2_setAt 13 = .ok (.aload_n 0, 1) := by decide +kernel
theorem dX2_setAt_14 : decode cX2_setAt 14 = .ok (.iload_n 2, 1) := by decide +kernel
theorem dX2_setAt_15 : decode cX2_setAt 15 = .ok (.invokevirtual 30, 3) := by decide +kernel
theorem dX2_setAt_18 : decode cX2_setAt 18 = .ok (.iastore, 1) := by decide +kernel
theorem dX2_setAt_19 : decode cX2_setAt 19 = .ok (.return_, 1) := by decide +kernel
theorem dX2_cutToLane_0 : decode cX2_cutToLane 0 = .ok (.aload_n 0, 1) := by decide +kernel
theorem dX2_cutToLane_1 : decode cX2_cutToLane 1 = .ok (.getfield 15, 3) := by decide +kernel
theorem dX2_cutToLane_4 : decode cX2_cutToLane 4 = .ok (.lookupswitch 34 #[(0, 28), (1, 31)], 28) := by decide +kernel
theorem dX2_cutToLane_32 : decode cX2_cutToLane 32 = .ok (.iload_n 1, 1) := by decide +kernel
theorem dX2_cutToLane_33 : decode cX2_cutToLane 33 = .ok (.i2b, 1) := by decide +kernel
theorem dX2_cutToLane_34 : decode cX2_cutToLane 34 = .ok (.ireturn, 1) := by decide +kernel
theorem dX2_cutToLane_35 : decode cX2_cutToLane 35 = .ok (.iload_n 1, 1) := by decide +kernel
theorem dX2_cutToLane_36 : decode cX2_cutToLane 36 = .ok (.i2s, 1) := by decide +kernel
theorem dX2_cutToLane_37 : decode cX2_cutToLane 37 = .ok (.ireturn, 1) := by decide +kernel
theorem dX2_cutToLane_38 : decode cX2_cutToLane 38 = .ok (.iload_n 1, 1) := by decide +kernel
theorem dX2_cutToLane_39 : decode cX2_cutToLane 39 = .ok (.ireturn, 1) := by decide +kernel
theorem dX3_init_0 : decode cX3_init 0 = .ok (.aload_n 0, 1) := by decide +kernel
theorem dX3_init_1 : decode cX3_init 1 = .ok (.invokespecial 3, 3) := by decide +kernel
theorem dX3_init_4 : decode cX3_init 4 = .ok (.aload_n 0, 1) := by decide +kernel
theorem dX3_init_5 : decode cX3_init 5 = .ok (.new 9, 3) := by decide +kernel
theorem dX3_init_8 : decode cX3_init 8 = .ok (.dup, 1) := by decide +kernel
theorem dX3_init_9 : decode cX3_init 9 = .ok (.invokespecial 11, 3) := by decide +kernel
theorem dX3_init_12 : decode cX3_init 12 = .ok (.putfield 12, 3) := by decide +kernel
theorem dX3_init_15 : decode cX3_init 15 = .ok (.aload_n 0, 1) := by decide +kernel
theorem dX3_init_16 : decode cX3_init 16 = .ok (.iconst 0, 1) := by decide +kernel
theorem dX3_init_17 : decode cX3_init 17 = .ok (.putfield 18, 3) := by decide +kernel
theorem dX3_init_20 : decode cX3_init 20 = .ok (.aload_n 0, 1) := by decide +kernel
theorem dX3_init_21 : decode cX3_init 21 = .ok (.bipush (-9), 2) := by decide +kernel
theorem dX3_init_23 : decode cX3_init 23 = .ok (.putfield 22, 3) := by decide +kernel
theorem dX3_init_26 : decode cX3_init 26 = .ok (.aload_n 0, 1) := by decide +kernel
theorem dX3_init_27 : decode cX3_init 27 = .ok (.bipush (-9), 2) := by decide +kernel
theorem dX3_init_29 : decode cX3_init 29 = .ok (.putfield 25, 3) := by decide +kernel
theorem dX3_init_32 : decode cX3_init 32 = .ok (.return_, 1) := by decide +kernel
theorem dX3_follow_0 : decode cX3_follow 0 = .ok (.aload_n 0, 1) := by decide +kernel
theorem dX3_follow_1 : decode cX3_follow 1 = .ok (.getfield 12, 3) := by decide +kernel
theorem dX3_follow_4 : decode cX3_follow 4 = .ok (.aload_n 1, 1) := by decide +kernel
theorem dX3_follow_5 : decode cX3_follow 5 = .ok (.invokevirtual 28, 3) := by decide +kernel
theorem dX3_follow_8 : decode cX3_follow 8 = .ok (.aload_n 0, 1) := by decide +kernel
theorem dX3_follow_9 : decode cX3_follow 9 = .ok (.iconst 0, 1) := by decide +kernel
theorem dX3_follow_10 : decode cX3_follow 10 = .ok (.putfield 18, 3) := by decide +kernel
theorem dX3_follow_13 : decode cX3_follow 13 = .ok (.aload_n 0, 1) := by decide +kernel
theorem dX3_follow_14 : decode cX3_follow 14 = .ok (.aload_n 0, 1) := by decide +kernel
theorem dX3_follow_15 : decode cX3_follow 15 = .ok (.getfield 12, 3) := by decide +kernel
theorem dX3_follow_18 : decode cX3_follow 18 = .ok (.aload_n 0, 1) := by decide +kernel
theorem dX3_follow_19 : decode cX3_follow 19 = .ok (.getfield 12, 3) := by decide +kernel
theorem dX3_follow_22 : decode cX3_follow 22 = .ok (.invokevirtual 32, 3) := by decide +kernel
theorem dX3_follow_25 : decode cX3_follow 25 = .ok (.invokevirtual 36, 3) := by decide +kernel
theorem dX3_follow_28 : decode cX3_follow 28 = .ok (.ifCond .eq 7, 3) := by decide +kernel
theorem dX3_follow_31 : decode cX3_follow 31 = .ok (.iconst 0, 1) := by decide +kernel
theorem dX3_follow_32 : decode cX3_follow 32 = .ok (.goto 5, 3) := by decide +kernel
theorem dX3_follow_35 : decode cX3_follow 35 = .ok (.bipush (-9), 2) := by decide +kernel
theorem dX3_follow_37 : decode cX3_follow 37 = .ok (.putfield 22, 3) := by decide +kernel
theorem dX3_follow_40 : decode cX3_follow 40 = .ok (.aload_n 0, 1) := by decide +kernel
theorem dX3_follow_41 : decode cX3_follow 41 = .ok (.bipush (-9), 2) := by decide +kernel
theorem dX3_follow_43 : decode cX3_follow 43 = .ok (.putfield 25, 3) := by decide +kernel
theorem dX3_follow_46 : decode cX3_follow 46 = .ok (.iconst 0, 1) := by decide +kernel
theorem dX3_follow_47 : decode cX3_follow 47 = .ok (.istore 5, 2) := by decide +kernel
theorem dX3_follow_49 : decode cX3_follow 49 = .ok (.iload 5, 2) := by decide +kernel
theorem dX3_follow_51 : decode cX3_follow 51 = .ok (.iload 4, 2) := by decide +kernel
theorem dX3_follow_53 : decode cX3_follow 53 = .ok (.if_icmp .ge 53, 3) := by decide +kernel
theorem dX3_follow_56 : decode cX3_follow 56 = .ok (.aload_n 0, 1) := by decide +kernel
theorem dX3_follow_57 : decode cX3_follow 57 = .ok (.getfield 25, 3) := by decide +kernel
theorem dX3_follow_60 : decode cX3_follow 60 = .ok (.bipush (-9), 2) := by decide +kernel
theorem dX3_follow_62 : decode cX3_follow 62 = .ok (.if_icmp .ne 44, 3) := by decide +kernel
theorem dX3_follow_65 : decode cX3_follow 65 = .ok (.aload_n 0, 1) := by decide +kernel
theorem dX3_follow_66 : decode cX3_follow 66 = .ok (.aload_n 2, 1) := by decide +kernel
theorem dX3_follow_67 : decode cX3_follow 67 = .ok (.iload_n 3, 1) := by decide +kernel
theorem dX3_follow_68 : decode cX3_follow 68 = .ok (.iconst 2, 1) := by decide +kernel
theorem dX3_follow_69 : decode cX3_follow 69 = .ok (.iload 5, 2) := by decide +kernel
theorem dX3_follow_71 : decode cX3_follow 71 = .ok (.imul, 1) := by decide +kernel
theorem dX3_follow_72 : decode cX3_follow 72 = .ok (.iadd, 1) := by decide +kernel
theorem dX3_follow_73 : decode cX3_follow 73 = .ok (.invokevirtual 40, 3) := by decide +kernel
theorem dX3_follow_76 : decode cX3_follow 76 = .ok (.aload_n 2, 1) := by decide +kernel
theorem dX3_follow_77 : decode cX3_follow 77 = .ok (.iload_n 3, 1) := by decide +kernel
theorem dX3_follow_78 : decode cX3_follow 78 = .ok (.iconst 2, 1) := by decide +kernel
theorem dX3_follow_79 : decode cX3_follow 79 = .ok (.iload 5, 2) := by decide +kernel
theorem dX3_follow_81 : decode cX3_follow 81 = .ok (.imul, 1) := by decide +kernel
theorem dX3_follow_82 : decode cX3_follow 82 = .ok (.iadd, 1) := by decide +kernel
theorem dX3_follow_83 : decode cX3_follow 83 = .ok (.iconst 1, 1) := by decide +kernel
theorem dX3_follow_84 : decode cX3_follow 84 = .ok (.iadd, 1) := by decide +kernel
theorem dX3_follow_85 : decode cX3_follow 85 = .ok (.invokevirtual 40, 3) := by decide +kernel
theorem dX3_follow_88 : decode cX3_follow 88 = .ok (.invokevirtual 46, 3) := by decide +kernel
theorem dX3_follow_91 : decode cX3_follow 91 = .ok (.ifCond .ne 9, 3) := by decide +kernel
theorem dX3_follow_94 : decode cX3_follow 94 = .ok (.aload_n 0, 1) := by decide +kernel
theorem dX3_follow_95 : decode cX3_follow 95 = .ok (.iload 5, 2) := by decide +kernel
theorem dX3_follow_97 : decode cX3_follow 97 = .ok (.putfield 25, 3) := by decide +kernel
theorem dX3_follow_100 : decode cX3_follow 100 = .ok (.iinc 5 1, 3) := by decide +kernel
theorem dX3_follow_103 : decode cX3_follow 103 = .ok (.goto (-54), 3) := by decide +kernel
theorem dX3_follow_106 : decode cX3_follow 106 = .ok (.return_, 1) := by decide +kernel
theorem dX3_canDo_0 : decode cX3_canDo 0 = .ok (.iload_n 1, 1) := by decide +kernel
theorem dX3_canDo_1 : decode cX3_canDo 1 = .ok (.iconst 1, 1) := by decide +kernel
theorem dX3_canDo_2 : decode cX3_canDo 2 = .ok (.if_icmp .ne 13, 3) := by decide +kernel
theorem dX3_canDo_5 : decode cX3_canDo 5 = .ok (.aload_n 0, 1) := by decide +kernel
theorem dX3_canDo_6 : decode cX3_canDo 6 = .ok (.getfield 12, 3) := by decide +kernel
theorem dX3_canDo_9 : decode cX3_canDo 9 = .ok (.iload_n 2, 1) := by decide +kernel
theorem dX3_canDo_10 : decode cX3_canDo 10 = .ok (.iconst 3, 1) := by decide +kernel
theorem dX3_canDo_11 : decode cX3_canDo 11 = .ok (.invokevirtual 50, 3) := by decide +kernel
theorem dX3_canDo_14 : decode cX3_canDo 14 = .ok (.ireturn, 1) := by decide +kernel
theorem dX3_canDo_15 : decode cX3_canDo 15 = .ok (.iload_n 1, 1) := by decide +kernel
theorem dX3_canDo_16 : decode cX3_canDo 16 = .ok (.iconst 2, 1) := by decide +kernel
theorem dX3_canDo_17 : decode cX3_canDo 17 = .ok (.if_icmp .ne 14, 3) := by decide +kernel
theorem dX3_canDo_20 : decode cX3_canDo 20 = .ok (.aload_n 0, 1) := by decide +kernel
theorem dX3_canDo_21 : decode cX3_canDo 21 = .ok (.getfield 12, 3) := by decide +kernel
theorem dX3_canDo_24 : decode cX3_canDo 24 = .ok (.iload_n 2, 1) := by decide +kernel
theorem dX3_canDo_25 : decode cX3_canDo 25 = .ok (.putfield 53, 3) := by decide +kernel
theorem dX3_canDo_28 : decode cX3_canDo 28 = .ok (.goto 8, 3) := by decide +kernel
theorem dX3_canDo_31 : decode cX3_canDo 31 = .ok (.aload_n 0, 1) := by decide +kernel
theorem dX3_canDo_32 : decode cX3_canDo 32 = .ok (.iload_n 2, 1) := by decide +kernel
theorem dX3_canDo_33 : decode cX3_canDo 33 = .ok (.invokevirtual 56, 3) := by decide +kernel
theorem dX3_canDo_36 : decode cX3_canDo 36 = .ok (.iconst 1, 1) := by decide +kernel
theorem dX3_canDo_37 : decode cX3_canDo 37 = .ok (.ireturn, 1) := by decide +kernel
theorem dX3_goHours_0 : decode cX3_goHours 0 = .ok (.iconst 0, 1) := by decide +kernel
theorem dX3_goHours_1 : decode cX3_goHours 1 = .ok (.istore_n 2, 1) := by decide +kernel
theorem dX3_goHours_2 : decode cX3_goHours 2 = .ok (.iload_n 2, 1) := by decide +kernel
theorem dX3_goHours_3 : decode cX3_goHours 3 = .ok (.iload_n 1, 1) := by decide +kernel
theorem dX3_goHours_4 : decode cX3_goHours 4 = .ok (.if_icmp .ge 61, 3) := by decide +kernel
theorem dX3_goHours_7 : decode cX3_goHours 7 = .ok (.aload_n 0, 1) := by decide +kernel
theorem dX3_goHours_8 : decode cX3_goHours 8 = .ok (.getfield 12, 3) := by decide +kernel
theorem dX3_goHours_11 : decode cX3_goHours 11 = .ok (.iconst 1, 1) := by decide +kernel
theorem dX3_goHours_12 : decode cX3_goHours 12 = .ok (.invokevirtual 60, 3) := by decide +kernel
theorem dX3_goHours_15 : decode cX3_goHours 15 = .ok (.aload_n 0, 1) := by decide +kernel
theorem dX3_goHours_16 : decode cX3_goHours 16 = .ok (.dup, 1) := by decide +kernel
theorem dX3_goHours_17 : decode cX3_goHours 17 = .ok (.getfield 18, 3) := by decide +kernel
theorem dX3_goHours_20 : decode cX3_goHours 20 = .ok (.iconst 1, 1) := by decide +kernel
theorem dX3_goHours_21 : decode cX3_goHours 21 = .ok (.iadd, 1) := by decide +kernel
theorem dX3_goHours_22 : decode cX3_goHours 22 = .ok (.putfield 18, 3) := by decide +kernel
theorem dX3_goHours_25 : decode cX3_goHours 25 = .ok (.aload_n 0, 1) := by decide +kernel
theorem dX3_goHours_26 : decode cX3_goHours 26 = .ok (.getfield 22, 3) := by decide +kernel
theorem dX3_goHours_29 : decode cX3_goHours 29 = .ok (.bipush (-9), 2) := by decide +kernel
theorem dX3_goHours_31 : decode cX3_goHours 31 = .ok (.if_icmp .ne 28, 3) := by decide +kernel
theorem dX3_goHours_34 : decode cX3_goHours 34 = .ok (.aload_n 0, 1) := by decide +kernel
theorem dX3_goHours_35 : decode cX3_goHours 35 = .ok (.getfield 12, 3) := by decide +kernel
theorem dX3_goHours_38 : decode cX3_goHours 38 = .ok (.aload_n 0, 1) := by decide +kernel
theorem dX3_goHours_39 : decode cX3_goHours 39 = .ok (.getfield 12, 3) := by decide +kernel
theorem dX3_goHours_42 : decode cX3_goHours 42 = .ok (.invokevirtual 32, 3) := by decide +kernel
theorem dX3_goHours_45 : decode cX3_goHours 45 = .ok (.invokevirtual 36, 3) := by decide +kernel
theorem dX3_goHours_48 : decode cX3_goHours 48 = .ok (.ifCond .eq 11, 3) := by decide +kernel
theorem dX3_goHours_51 : decode cX3_goHours 51 = .ok (.aload_n 0, 1) := by decide +kernel
theorem dX3_goHours_52 : decode cX3_goHours 52 = .ok (.aload_n 0, 1) := by decide +kernel
theorem dX3_goHours_53 : decode cX3_goHours 53 = .ok (.getfield 18, 3) := by decide +kernel
theorem dX3_goHours_56 : decode cX3_goHours 56 = .ok (.putfield 22, 3) := by decide +kernel
theorem dX3_goHours_59 : decode cX3_goHours 59 = .ok (.iinc 2 1, 3) := by decide +kernel
theorem dX3_goHours_62 : decode cX3_goHours 62 = .ok (.goto (-60), 3) := by decide +kernel
theorem dX3_goHours_65 : decode cX3_goHours 65 = .ok (.return_, 1) := by decide +kernel
theorem dX3_answerTo_0 : decode cX3_answerTo 0 = .ok (.iload_n 1, 1) := by decide +kernel
theorem dX3_answerTo_1 : decode cX3_answerTo 1 = .ok (.iconst 1, 1) := by decide +kernel
theorem dX3_answerTo_2 : decode cX3_answerTo 2 = .ok (.if_icmp .ne 8, 3) := by decide +kernel
theorem dX3_answerTo_5 : decode cX3_answerTo 5 = .ok (.aload_n 0, 1) := by decide +kernel
theorem dX3_answerTo_6 : decode cX3_answerTo 6 = .ok (.getfield 25, 3) := by decide +kernel
theorem dX3_answerTo_9 : decode cX3_answerTo 9 = .ok (.ireturn, 1) := by decide +kernel
theorem dX3_answerTo_10 : decode cX3_answerTo 10 = .ok (.aload_n 0, 1) := by decide +kernel
theorem dX3_answerTo_11 : decode cX3_answerTo 11 = .ok (.getfield 25, 3) := by decide +kernel
theorem dX3_answerTo_14 : decode cX3_answerTo 14 = .ok (.bipush (-9), 2) := by decide +kernel
theorem dX3_answerTo_16 : decode cX3_answerTo 16 = .ok (.if_icmp .eq 11, 3) := by decide +kernel
theorem dX3_answerTo_19 : decode cX3_answerTo 19 = .ok (.bipush (-100), 2) := by decide +kernel
theorem dX3_answerTo_21 : decode cX3_answerTo 21 = .ok (.aload_n 0, 1) := by decide +kernel
theorem dX3_answerTo_22 : decode cX3_answerTo 22 = .ok (.getfield 25, 3) := by decide +kernel
theorem dX3_answerTo_25 : decode cX3_answerTo 25 = .ok (.isub, 1) := by decide +kernel
theorem dX3_answerTo_26 : decode cX3_answerTo 26 = .ok (.ireturn, 1) := by decide +kernel
theorem dX3_answerTo_27 : decode cX3_answerTo 27 = .ok (.iload_n 1, 1) := by decide +kernel
theorem dX3_answerTo_28 : decode cX3_answerTo 28 = .ok (.tableswitch 80 0 4 #[36, 80, 44, 67, 75], 36) := by decide +kernel
theorem dX3_answerTo_64 : decode cX3_answerTo 64 = .ok (.aload_n 0, 1) := by decide +kernel
theorem dX3_answerTo_65 : decode cX3_answerTo 65 = .ok (.getfield 12, 3) := by decide +kernel
theorem dX3_answerTo_68 : decode cX3_answerTo 68 = .ok (.invokevirtual 32, 3) := by decide +kernel
theorem dX3_answerTo_71 : decode cX3_answerTo 71 = .ok (.ireturn, 1) := by decide +kernel
theorem dX3_answerTo_72 : decode cX3_answerTo 72 = .ok (.aload_n 0, 1) := by decide +kernel
theorem dX3_answerTo_73 : decode cX3_answerTo 73 = .ok (.getfield 12, 3) := by decide +kernel
theorem dX3_answerTo_76 : decode cX3_answerTo 76 = .ok (.aload_n 0, 1) := by decide +kernel
theorem dX3_answerTo_77 : decode cX3_answerTo 77 = .ok (.getfield 12, 3) := by decide +kernel
theorem dX3_answerTo_80 : decode cX3_answerTo 80 = .ok (.invokevirtual 32, 3) := by decide +kernel
theorem dX3_answerTo_83 : decode cX3_answerTo 83 = .ok (.invokevirtual 36, 3) := by decide +kernel
theorem dX3_answerTo_86 : decode cX3_answerTo 86 = .ok (.ifCond .eq 7, 3) := by decide +kernel
theorem dX3_answerTo_89 : decode cX3_answerTo 89 = .ok (.iconst 1, 1) := by decide +kernel
theorem dX3_answerTo_90 : decode cX3_answerTo 90 = .ok (.goto 4, 3) := by decide +kernel
theorem dX3_answerTo_93 : decode cX3_answerTo 93 = .ok (.iconst 0, 1) := by decide +kernel
theorem dX3_answerTo_94 : decode cX3_answerTo 94 = .ok (.ireturn, 1) := by decide +kernel
theorem dX3_answerTo_95 : decode cX3_answerTo 95 = .ok (.aload_n 0, 1) := by decide +kernel
theorem dX3_answerTo_96 : decode cX3_answerTo 96 = .ok (.getfield 12, 3) := by decide +kernel
theorem dX3_answerTo_99 : decode cX3_answerTo 99 = .ok (.invokevirtual 63, 3) := by decide +kernel
theorem dX3_answerTo_102 : decode cX3_answerTo 102 = .ok (.ireturn, 1) := by decide +kernel
theorem dX3_answerTo_103 : decode cX3_answerTo 103 = .ok (.aload_n 0, 1) := by decide +kernel
theorem dX3_answerTo_104 : decode cX3_answerTo 104 = .ok (.getfield 22, 3) := by decide +kernel
theorem dX3_answerTo_107 : decode cX3_answerTo 107 = .ok (.ireturn, 1) := by decide +kernel
theorem dX3_answerTo_108 : decode cX3_answerTo 108 = .ok (.aload_n 0, 1) := by decide +kernel
theorem dX3_answerTo_109 : decode cX3_answerTo 109 = .ok (.getfield 12, 3) := by decide +kernel
theorem dX3_answerTo_112 : decode cX3_answerTo 112 = .ok (.iload_n 1, 1) := by decide +kernel
theorem dX3_answerTo_113 : decode cX3_answerTo 113 = .ok (.bipush 10, 2) := by decide +kernel
theorem dX3_answerTo_115 : decode cX3_answerTo 115 = .ok (.isub, 1) := by decide +kernel
theorem dX3_answerTo_116 : decode cX3_answerTo 116 = .ok (.invokevirtual 66, 3) := by decide +kernel
theorem dX3_answerTo_119 : decode cX3_answerTo 119 = .ok (.ifCond .eq 18, 3) := by decide +kernel
theorem dX3_answerTo_122 : decode cX3_answerTo 122 = .ok (.aload_n 0, 1) := by decide +kernel
theorem dX3_answerTo_123 : decode cX3_answerTo 123 = .ok (.getfield 12, 3) := by decide +kernel
theorem dX3_answerTo_126 : decode cX3_answerTo 126 = .ok (.getfield 69, 3) := by decide +kernel
theorem dX3_answerTo_129 : decode cX3_answerTo 129 = .ok (.iload_n 1, 1) := by decide +kernel
theorem dX3_answerTo_130 : decode cX3_answerTo 130 = .ok (.bipush 10, 2) := by decide +kernel
theorem dX3_answerTo_132 : decode cX3_answerTo 132 = .ok (.isub, 1) := by decide +kernel
theorem dX3_answerTo_133 : decode cX3_answerTo 133 = .ok (.iaload, 1) := by decide +kernel
theorem dX3_answerTo_134 : decode cX3_answerTo 134 = .ok (.goto 5, 3) := by decide +kernel
theorem dX3_answerTo_137 : decode cX3_answerTo 137 = .ok (.bipush (-9), 2) := by decide +kernel
theorem dX3_answerTo_139 : decode cX3_answerTo 139 = .ok (.ireturn, 1) := by decide +kernel
theorem dJ6_lowestOneBit_0f7a4_0 : decode cJ6_lowestOneBit_0f7a4 0 = .ok (.iload_n 0, 1) := by decide +kernel
theorem dJ6_lowestOneBit_0f7a4_1 : decode cJ6_lowestOneBit_0f7a4 1 = .ok (.iload_n 0, 1) := by decide +kernel
theorem dJ6_lowestOneBit_0f7a4_2 : decode cJ6_lowestOneBit_0f7a4 2 = .ok (.ineg, 1) := by decide +kernel
theorem dJ6_lowestOneBit_0f7a4_3 : decode cJ6_lowestOneBit_0f7a4 3 = .ok (.iand, 1) := by decide +kernel
theorem dJ6_lowestOneBit_0f7a4_4 : decode cJ6_lowestOneBit_0f7a4 4 = .ok (.ireturn, 1) := by decide +kernel
theorem dJ6_bitCount_0f7a4_0 : decode cJ6_bitCount_0f7a4 0 = .ok (.iload_n 0, 1) := by decide +kernel
theorem dJ6_bitCount_0f7a4_1 : decode cJ6_bitCount_0f7a4 1 = .ok (.iload_n 0, 1) := by decide +kernel
theorem dJ6_bitCount_0f7a4_2 : decode cJ6_bitCount_0f7a4 2 = .ok (.iconst 1, 1) := by decide +kernel
theorem dJ6_bitCount_0f7a4_3 : decode cJ6_bitCount_0f7a4 3 = .ok (.iushr, 1) := by decide +kernel
theorem dJ6_bitCount_0f7a4_4 : decode cJ6_bitCount_0f7a4 4 = .ok (.ldc_w 265, 3) := by decide +kernel
theorem dJ6_bitCount_0f7a4_7 : decode cJ6_bitCount_0f7a4 7 = .ok (.iand, 1) := by decide +kernel
theorem dJ6_bitCount_0f7a4_8 : decode cJ6_bitCount_0f7a4 8 = .ok (.isub, 1) := by decide +kernel
theorem dJ6_bitCount_0f7a4_9 : decode cJ6_bitCount_0f7a4 9 = .ok (.istore_n 0, 1) := by decide +kernel
theorem dJ6_bitCount_0f7a4_10 : decode cJ6_bitCount_0f7a4 10 = .ok (.iload_n 0, 1) := by decide +kernel
theorem dJ6_bitCount_0f7a4_11 : decode cJ6_bitCount_0f7a4 11 = .ok (.ldc_w 266, 3) := by decide +kernel
theorem dJ6_bitCount_0f7a4_14 : decode cJ6_bitCount_0f7a4 14 = .ok (.iand, 1) := by decide +kernel
theorem dJ6_bitCount_0f7a4_15 : decode cJ6_bitCount_0f7a4 15 = .ok (.iload_n 0, 1) := by decide +kernel
theorem dJ6_bitCount_0f7a4_16 : decode cJ6_bitCount_0f7a4 16 = .ok (.iconst 2, 1) := by decide +kernel
theorem dJ6_bitCount_0f7a4_17 : decode cJ6_bitCount_0f7a4 17 = .ok (.iushr, 1) := by decide +kernel
theorem dJ6_bitCount_0f7a4_18 : decode cJ6_bitCount_0f7a4 18 = .ok (.ldc_w 266, 3) := by decide +kernel
theorem dJ6_bitCount_0f7a4_21 : decode cJ6_bitCount_0f7a4 21 = .ok (.iand, 1) := by decide +kernel
theorem dJ6_bitCount_0f7a4_22 : decode cJ6_bitCount_0f7a4 22 = .ok (.iadd, 1) := by decide +kernel
theorem dJ6_bitCount_0f7a4_23 : decode cJ6_bitCount_0f7a4 23 = .ok (.istore_n 0, 1) := by decide +kernel
theorem dJ6_bitCount_0f7a4_24 : decode cJ6_bitCount_0f7a4 24 = .ok (.iload_n 0, 1) := by decide +kernel
theorem dJ6_bitCount_0f7a4_25 : decode cJ6_bitCount_0f7a4 25 = .ok (.iload_n 0, 1) := by decide +kernel
theorem dJ6_bitCount_0f7a4_26 : decode cJ6_bitCount_0f7a4 26 = .ok (.iconst 4, 1) := by decide +kernel
theorem dJ6_bitCount_0f7a4_27 : decode cJ6_bitCount_0f7a4 27 = .ok (.iushr, 1) := by decide +kernel
theorem dJ6_bitCount_0f7a4_28 : decode cJ6_bitCount_0f7a4 28 = .ok (.iadd, 1) := by decide +kernel
theorem dJ6_bitCount_0f7a4_29 : decode cJ6_bitCount_0f7a4 29 = .ok (.ldc_w 267, 3) := by decide +kernel
theorem dJ6_bitCount_0f7a4_32 : decode cJ6_bitCount_0f7a4 32 = .ok (.iand, 1) := by decide +kernel
theorem dJ6_bitCount_0f7a4_33 : decode cJ6_bitCount_0f7a4 33 = .ok (.istore_n 0, 1) := by decide +kernel
theorem dJ6_bitCount_0f7a4_34 : decode cJ6_bitCount_0f7a4 34 = .ok (.iload_n 0, 1) := by decide +kernel
theorem dJ6_bitCount_0f7a4_35 : decode cJ6_bitCount_0f7a4 35 = .ok (.iload_n 0, 1) := by decide +kernel
theorem dJ6_bitCount_0f7a4_36 : decode cJ6_bitCount_0f7a4 36 = .ok (.bipush 8, 2) := by decide +kernel
theorem dJ6_bitCount_0f7a4_38 : decode cJ6_bitCount_0f7a4 38 = .ok (.iushr, 1) := by decide +kernel
theorem dJ6_bitCount_0f7a4_39 : decode cJ6_bitCount_0f7a4 39 = .ok (.iadd, 1) := by decide +kernel
theorem dJ6_bitCount_0f7a4_40 : decode cJ6_bitCount_0f7a4 40 = .ok (.istore_n 0, 1) := by decide +kernel
theorem dJ6_bitCount_0f7a4_41 : decode cJ6_bitCount_0f7a4 41 = .ok (.iload_n 0, 1) := by decide +kernel
theorem dJ6_bitCount_0f7a4_42 : decode cJ6_bitCount_0f7a4 42 = .ok (.iload_n 0, 1) := by decide +kernel
theorem dJ6_bitCount_0f7a4_43 : decode cJ6_bitCount_0f7a4 43 = .ok (.bipush 16, 2) := by decide +kernel
theorem dJ6_bitCount_0f7a4_45 : decode cJ6_bitCount_0f7a4 45 = .ok (.iushr, 1) := by decide +kernel
theorem dJ6_bitCount_0f7a4_46 : decode cJ6_bitCount_0f7a4 46 = .ok (.iadd, 1) := by decide +kernel
theorem dJ6_bitCount_0f7a4_47 : decode cJ6_bitCount_0f7a4 47 = .ok (.istore_n 0, 1) := by decide +kernel
theorem dJ6_bitCount_0f7a4_48 : decode cJ6_bitCount_0f7a4 48 = .ok (.iload_n 0, 1) := by decide +kernel
theorem dJ6_bitCount_0f7a4_49 : decode cJ6_bitCount_0f7a4 49 = .ok (.bipush 63, 2) := by decide +kernel
theorem dJ6_bitCount_0f7a4_51 : decode cJ6_bitCount_0f7a4 51 = .ok (.iand, 1) := by decide +kernel
theorem dJ6_bitCount_0f7a4_52 : decode cJ6_bitCount_0f7a4 52 = .ok (.ireturn, 1) := by decide +kernel
theorem dJ9_max_7cf53_0 : decode cJ9_max_7cf53 0 = .ok (.iload_n 0, 1) := by decide +kernel
theorem dJ9_max_7cf53_1 : decode cJ9_max_7cf53 1 = .ok (.iload_n 1, 1) := by decide +kernel
theorem dJ9_max_7cf53_2 : decode cJ9_max_7cf53 2 = .ok (.if_icmp .lt 7, 3) := by decide +kernel
theorem dJ9_max_7cf53_5 : decode cJ9_max_7cf53 5 = .ok (.iload_n 0, 1) := by decide +kernel
theorem dJ9_max_7cf53_6 : decode cJ9_max_7cf53 6 = .ok (.goto 4, 3) := by decide +kernel
theorem dJ9_max_7cf53_9 : decode cJ9_max_7cf53 9 = .ok (.iload_n 1, 1) := by decide +kernel
theorem dJ9_max_7cf53_10 : decode cJ9_max_7cf53 10 = .ok (.ireturn, 1) := by decide +kernel
theorem dJ9_min_7cf53_0 : decode cJ9_min_7cf53 0 = .ok (.iload_n 0, 1) := by decide +kernel
theorem dJ9_min_7cf53_1 : decode cJ9_min_7cf53 1 = .ok (.iload_n 1, 1) := by decide +kernel
theorem dJ9_min_7cf53_2 : decode cJ9_min_7cf53 2 = .ok (.if_icmp .gt 7, 3) := by decide +kernel
theorem dJ9_min_7cf53_5 : decode cJ9_min_7cf53 5 = .ok (.iload_n 0, 1) := by decide +kernel
theorem dJ9_min_7cf53_6 : decode cJ9_min_7cf53 6 = .ok (.goto 4, 3) := by decide +kernel
theorem dJ9_min_7cf53_9 : decode cJ9_min_7cf53 9 = .ok (.iload_n 1, 1) := by decide +kernel
theorem dJ9_min_7cf53_10 : decode cJ9_min_7cf53 10 = .ok (.ireturn, 1) := by decide +kernel
