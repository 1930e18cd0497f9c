theorem dX5_does_40 : decode cX5_does 40 = .ok (.iload_n 1, 1) := by decide +kernel
theorem dX5_does_41 : decode cX5_does 41 = .ok (.ifCond .ne 28, 3) := by decide +kernel
theorem dX5_does_44 : decode cX5_does 44 = .ok (.aload_n 0, 1) := by decide +kernel
theorem dX5_does_45 : decode cX5_does 45 = .ok (.iconst 1, 1) := by decide +kernel
theorem dX5_does_46 : decode cX5_does 46 = .ok (.invokevirtual 144, 3) := by decide +kernel
theorem dX5_does_49 : decode cX5_does 49 = .ok (.aload_n 0, 1) := by decide +kernel
theorem dX5_does_50 : decode cX5_does 50 = .ok (.dup, 1) := by decide +kernel
theorem dX5_does_51 : decode cX5_does 51 = .ok (.getfield 160, 3) := by decide +kernel
theorem dX5_does_54 : decode cX5_does 54 = .ok (.iconst 1, 1) := by decide +kernel
theorem dX5_does_55 : decode cX5_does 55 = .ok (.iadd, 1) := by decide +kernel
theorem dX5_does_56 : decode cX5_does 56 = .ok (.putfield 160, 3) := by decide +kernel
theorem dX5_does_59 : decode cX5_does 59 = .ok (.aload_n 0, 1) := by decide +kernel
theorem dX5_does_60 : decode cX5_does 60 = .ok (.invokevirtual 163, 3) := by decide +kernel
theorem dX5_does_63 : decode cX5_does 63 = .ok (.iinc 3 1, 3) := by decide +kernel
theorem dX5_does_66 : decode cX5_does 66 = .ok (.goto (-31), 3) := by decide +kernel
theorem dX5_does_69 : decode cX5_does 69 = .ok (.iconst 1, 1) := by decide +kernel
theorem dX5_does_70 : decode cX5_does 70 = .ok (.ireturn, 1) := by decide +kernel
theorem dX5_goPlan_0 : decode cX5_goPlan 0 = .ok (.aload_n 0, 1) := by decide +kernel
theorem dX5_goPlan_1 : decode cX5_goPlan 1 = .ok (.bipush (-9), 2) := by decide +kernel
theorem dX5_goPlan_3 : decode cX5_goPlan 3 = .ok (.putfield 157, 3) := by decide +kernel
theorem dX5_goPlan_6 : decode cX5_goPlan 6 = .ok (.aload_n 0, 1) := by decide +kernel
theorem dX5_goPlan_7 : decode cX5_goPlan 7 = .ok (.iconst 0, 1) := by decide +kernel
theorem dX5_goPlan_8 : decode cX5_goPlan 8 = .ok (.putfield 160, 3) := by decide +kernel
theorem dX5_goPlan_11 : decode cX5_goPlan 11 = .ok (.aload_n 0, 1) := by decide +kernel
theorem dX5_goPlan_12 : decode cX5_goPlan 12 = .ok (.invokevirtual 163, 3) := by decide +kernel
theorem dX5_goPlan_15 : decode cX5_goPlan 15 = .ok (.iconst 0, 1) := by decide +kernel
theorem dX5_goPlan_16 : decode cX5_goPlan 16 = .ok (.istore_n 3, 1) := by decide +kernel
theorem dX5_goPlan_17 : decode cX5_goPlan 17 = .ok (.iload_n 3, 1) := by decide +kernel
theorem dX5_goPlan_18 : decode cX5_goPlan 18 = .ok (.iload_n 2, 1) := by decide +kernel
theorem dX5_goPlan_19 : decode cX5_goPlan 19 = .ok (.if_icmp .ge 40, 3) := by decide +kernel
theorem dX5_goPlan_22 : decode cX5_goPlan 22 = .ok (.aload_n 0, 1) := by decide +kernel
theorem dX5_goPlan_23 : decode cX5_goPlan 23 = .ok (.aload_n 0, 1) := by decide +kernel
theorem dX5_goPlan_24 : decode cX5_goPlan 24 = .ok (.getfield 16, 3) := by decide +kernel
theorem dX5_goPlan_27 : decode cX5_goPlan 27 = .ok (.iload_n 1, 1) := by decide +kernel
theorem dX5_goPlan_28 : decode cX5_goPlan 28 = .ok (.iconst 2, 1) := by decide +kernel
theorem dX5_goPlan_29 : decode cX5_goPlan 29 = .ok (.iload_n 3, 1) := by decide +kernel
theorem dX5_goPlan_30 : decode cX5_goPlan 30 = .ok (.imul, 1) := by decide +kernel
theorem dX5_goPlan_31 : decode cX5_goPlan 31 = .ok (.iadd, 1) := by decide +kernel
theorem dX5_goPlan_32 : decode cX5_goPlan 32 = .ok (.iaload, 1) := by decide +kernel
theorem dX5_goPlan_33 : decode cX5_goPlan 33 = .ok (.aload_n 0, 1) := by decide +kernel
theorem dX5_goPlan_34 : decode cX5_goPlan 34 = .ok (.getfield 16, 3) := by decide +kernel
theorem dX5_goPlan_37 : decode cX5_goPlan 37 = .ok (.iload_n 1, 1) := by decide +kernel
theorem dX5_goPlan_38 : decode cX5_goPlan 38 = .ok (.iconst 2, 1) := by decide +kernel
theorem dX5_goPlan_39 : decode cX5_goPlan 39 = .ok (.iload_n 3, 1) := by decide +kernel
theorem dX5_goPlan_40 : decode cX5_goPlan 40 = .ok (.imul, 1) := by decide +kernel
theorem dX5_goPlan_41 : decode cX5_goPlan 41 = .ok (.iadd, 1) := by decide +kernel
theorem dX5_goPlan_42 : decode cX5_goPlan 42 = .ok (.iconst 1, 1) := by decide +kernel
theorem dX5_goPlan_43 : decode cX5_goPlan 43 = .ok (.iadd, 1) := by decide +kernel
theorem dX5_goPlan_44 : decode cX5_goPlan 44 = .ok (.iaload, 1) := by decide +kernel
theorem dX5_goPlan_45 : decode cX5_goPlan 45 = .ok (.invokevirtual 166, 3) := by decide +kernel
theorem dX5_goPlan_48 : decode cX5_goPlan 48 = .ok (.ifCond .ne 5, 3) := by decide +kernel
theorem dX5_goPlan_51 : decode cX5_goPlan 51 = .ok (.iload_n 3, 1) := by decide +kernel
theorem dX5_goPlan_52 : decode cX5_goPlan 52 = .ok (.ireturn, 1) := by decide +kernel
theorem dX5_goPlan_53 : decode cX5_goPlan 53 = .ok (.iinc 3 1, 3) := by decide +kernel
theorem dX5_goPlan_56 : decode cX5_goPlan 56 = .ok (.goto (-39), 3) := by decide +kernel
theorem dX5_goPlan_59 : decode cX5_goPlan 59 = .ok (.bipush (-9), 2) := by decide +kernel
theorem dX5_goPlan_61 : decode cX5_goPlan 61 = .ok (.ireturn, 1) := by decide +kernel
theorem dX5_plan_0 : decode cX5_plan 0 = .ok (.aload_n 0, 1) := by decide +kernel
theorem dX5_plan_1 : decode cX5_plan 1 = .ok (.iconst 0, 1) := by decide +kernel
theorem dX5_plan_2 : decode cX5_plan 2 = .ok (.putfield 43, 3) := by decide +kernel
theorem dX5_plan_5 : decode cX5_plan 5 = .ok (.iload_n 1, 1) := by decide +kernel
theorem dX5_plan_6 : decode cX5_plan 6 = .ok (.invokestatic 66, 3) := by decide +kernel
theorem dX5_plan_9 : decode cX5_plan 9 = .ok (.ifCond .ne 5, 3) := by decide +kernel
theorem dX5_plan_12 : decode cX5_plan 12 = .ok (.iconst (-1), 1) := by decide +kernel
theorem dX5_plan_13 : decode cX5_plan 13 = .ok (.ireturn, 1) := by decide +kernel
theorem dX5_plan_14 : decode cX5_plan 14 = .ok (.iload_n 2, 1) := by decide +kernel
theorem dX5_plan_15 : decode cX5_plan 15 = .ok (.invokestatic 70, 3) := by decide +kernel
theorem dX5_plan_18 : decode cX5_plan 18 = .ok (.ifCond .eq 36, 3) := by decide +kernel
theorem dX5_plan_21 : decode cX5_plan 21 = .ok (.iload 4, 2) := by decide +kernel
theorem dX5_plan_23 : decode cX5_plan 23 = .ok (.iconst 0, 1) := by decide +kernel
theorem dX5_plan_24 : decode cX5_plan 24 = .ok (.bipush 20, 2) := by decide +kernel
theorem dX5_plan_26 : decode cX5_plan 26 = .ok (.invokestatic 49, 3) := by decide +kernel
theorem dX5_plan_29 : decode cX5_plan 29 = .ok (.ifCond .eq 25, 3) := by decide +kernel
theorem dX5_plan_32 : decode cX5_plan 32 = .ok (.iload 5, 2) := by decide +kernel
theorem dX5_plan_34 : decode cX5_plan 34 = .ok (.iconst 0, 1) := by decide +kernel
theorem dX5_plan_35 : decode cX5_plan 35 = .ok (.iconst 4, 1) := by decide +kernel
theorem dX5_plan_36 : decode cX5_plan 36 = .ok (.invokestatic 49, 3) := by decide +kernel
theorem dX5_plan_39 : decode cX5_plan 39 = .ok (.ifCond .ne 18, 3) := by decide +kernel
theorem dX5_plan_42 : decode cX5_plan 42 = .ok (.iload 5, 2) := by decide +kernel
theorem dX5_plan_44 : decode cX5_plan 44 = .ok (.bipush 10, 2) := by decide +kernel
theorem dX5_plan_46 : decode cX5_plan 46 = .ok (.bipush 21, 2) := by decide +kernel
theorem dX5_plan_48 : decode cX5_plan 48 = .ok (.invokestatic 49, 3) := by decide +kernel
theorem dX5_plan_51 : decode cX5_plan 51 = .ok (.ifCond .ne 6, 3) := by decide +kernel
theorem dX5_plan_54 : decode cX5_plan 54 = .ok (.bipush (-2), 2) := by decide +kernel
theorem dX5_plan_56 : decode cX5_plan 56 = .ok (.ireturn, 1) := by decide +kernel
theorem dX5_plan_57 : decode cX5_plan 57 = .ok (.aload_n 0, 1) := by decide +kernel
theorem dX5_plan_58 : decode cX5_plan 58 = .ok (.iload_n 1, 1) := by decide +kernel
theorem dX5_plan_59 : decode cX5_plan 59 = .ok (.iload_n 2, 1) := by decide +kernel
theorem dX5_plan_60 : decode cX5_plan 60 = .ok (.iload_n 3, 1) := by decide +kernel
theorem dX5_plan_61 : decode cX5_plan 61 = .ok (.iconst 2, 1) := by decide +kernel
theorem dX5_plan_62 : decode cX5_plan 62 = .ok (.iload 4, 2) := by decide +kernel
theorem dX5_plan_64 : decode cX5_plan 64 = .ok (.imul, 1) := by decide +kernel
theorem dX5_plan_65 : decode cX5_plan 65 = .ok (.invokevirtual 73, 3) := by decide +kernel
theorem dX5_plan_68 : decode cX5_plan 68 = .ok (.istore 6, 2) := by decide +kernel
theorem dX5_plan_70 : decode cX5_plan 70 = .ok (.iload 6, 2) := by decide +kernel
theorem dX5_plan_72 : decode cX5_plan 72 = .ok (.ifCond .eq 10, 3) := by decide +kernel
theorem dX5_plan_75 : decode cX5_plan 75 = .ok (.aload_n 0, 1) := by decide +kernel
theorem dX5_plan_76 : decode cX5_plan 76 = .ok (.iload 6, 2) := by decide +kernel
theorem dX5_plan_78 : decode cX5_plan 78 = .ok (.invokevirtual 77, 3) := by decide +kernel
theorem dX5_plan_81 : decode cX5_plan 81 = .ok (.ireturn, 1) := by decide +kernel
theorem dX5_plan_82 : decode cX5_plan 82 = .ok (.aload_n 0, 1) := by decide +kernel
theorem dX5_plan_83 : decode cX5_plan 83 = .ok (.getfield 53, 3) := by decide +kernel
theorem dX5_plan_86 : decode cX5_plan 86 = .ok (.ifCond .ne 6, 3) := by decide +kernel
theorem dX5_plan_89 : decode cX5_plan 89 = .ok (.bipush (-3), 2) := by decide +kernel
theorem dX5_plan_91 : decode cX5_plan 91 = .ok (.ireturn, 1) := by decide +kernel
theorem dX5_plan_92 : decode cX5_plan 92 = .ok (.bipush 60, 2) := by decide +kernel
theorem dX5_plan_94 : decode cX5_plan 94 = .ok (.iload_n 1, 1) := by decide +kernel
theorem dX5_plan_95 : decode cX5_plan 95 = .ok (.imul, 1) := by decide +kernel
theorem dX5_plan_96 : decode cX5_plan 96 = .ok (.iload_n 3, 1) := by decide +kernel
theorem dX5_plan_97 : decode cX5_plan 97 = .ok (.iadd, 1) := by decide +kernel
theorem dX5_plan_98 : decode cX5_plan 98 = .ok (.istore 7, 2) := by decide +kernel
theorem dX5_plan_100 : decode cX5_plan 100 = .ok (.iconst 0, 1) := by decide +kernel
theorem dX5_plan_101 : decode cX5_plan 101 = .ok (.istore 8, 2) := by decide +kernel
theorem dX5_plan_103 : decode cX5_plan 103 = .ok (.iload 8, 2) := by decide +kernel
theorem dX5_plan_105 : decode cX5_plan 105 = .ok (.iload 4, 2) := by decide +kernel
theorem dX5_plan_107 : decode cX5_plan 107 = .ok (.if_icmp .ge 49, 3) := by decide +kernel
theorem dX5_plan_110 : decode cX5_plan 110 = .ok (.aload_n 0, 1) := by decide +kernel
theorem dX5_plan_111 : decode cX5_plan 111 = .ok (.aload_n 0, 1) := by decide +kernel
theorem dX5_plan_112 : decode cX5_plan 112 = .ok (.getfield 16, 3) := by decide +kernel
theorem dX5_plan_115 : decode cX5_plan 115 = .ok (.iload 7, 2) := by decide +kernel
theorem dX5_plan_117 : decode cX5_plan 117 = .ok (.iconst 2, 1) := by decide +kernel
theorem dX5_plan_118 : decode cX5_plan 118 = .ok (.iload 8, 2) := by decide +kernel
theorem dX5_plan_120 : decode cX5_plan 120 = .ok (.imul, 1) := by decide +kernel
theorem dX5_plan_121 : decode cX5_plan 121 = .ok (.iadd, 1) := by decide +kernel
theorem dX5_plan_122 : decode cX5_plan 122 = .ok (.iaload, 1) := by decide +kernel
theorem dX5_plan_123 : decode cX5_plan 123 = .ok (.aload_n 0, 1) := by decide +kernel
theorem dX5_plan_124 : decode cX5_plan 124 = .ok (.getfield 16, 3) := by decide +kernel
theorem dX5_plan_127 : decode cX5_plan 127 = .ok (.iload 7, 2) := by decide +kernel
theorem dX5_plan_129 : decode cX5_plan 129 = .ok (.iconst 2, 1) := by decide +kernel
theorem dX5_plan_130 : decode cX5_plan 130 = .ok (.iload 8, 2) := by decide +kernel
theorem dX5_plan_132 : decode cX5_plan 132 = .ok (.imul, 1) := by decide +kernel
theorem dX5_plan_133 : decode cX5_plan 133 = .ok (.iadd, 1) := by decide +kernel
theorem dX5_plan_134 : decode cX5_plan 134 = .ok (.iconst 1, 1) := by decide +kernel
theorem dX5_plan_135 : decode cX5_plan 135 = .ok (.iadd, 1) := by decide +kernel
theorem dX5_plan_136 : decode cX5_plan 136 = .ok (.iaload, 1) := by decide +kernel
theorem dX5_plan_137 : decode cX5_plan 137 = .ok (.invokevirtual 169, 3) := by decide +kernel
theorem dX5_plan_140 : decode cX5_plan 140 = .ok (.istore 9, 2) := by decide +kernel
theorem dX5_plan_142 : decode cX5_plan 142 = .ok (.iload 9, 2) := by decide +kernel
theorem dX5_plan_144 : decode cX5_plan 144 = .ok (.ifCond .eq 6, 3) := by decide +kernel
theorem dX5_plan_147 : decode cX5_plan 147 = .ok (.iload 9, 2) := by decide +kernel
theorem dX5_plan_149 : decode cX5_plan 149 = .ok (.ireturn, 1) := by decide +kernel
theorem dX5_plan_150 : decode cX5_plan 150 = .ok (.iinc 8 1, 3) := by decide +kernel
theorem dX5_plan_153 : decode cX5_plan 153 = .ok (.goto (-50), 3) := by decide +kernel
theorem dX5_plan_156 : decode cX5_plan 156 = .ok (.aload_n 0, 1) := by decide +kernel
theorem dX5_plan_157 : decode cX5_plan 157 = .ok (.invokevirtual 172, 3) := by decide +kernel
theorem dX5_plan_160 : decode cX5_plan 160 = .ok (.aload_n 0, 1) := by decide +kernel
theorem dX5_plan_161 : decode cX5_plan 161 = .ok (.iload 7, 2) := by decide +kernel
theorem dX5_plan_163 : decode cX5_plan 163 = .ok (.iload 4, 2) := by decide +kernel
theorem dX5_plan_165 : decode cX5_plan 165 = .ok (.invokevirtual 175, 3) := by decide +kernel
theorem dX5_plan_168 : decode cX5_plan 168 = .ok (.istore 8, 2) := by decide +kernel
theorem dX5_plan_170 : decode cX5_plan 170 = .ok (.aload_n 0, 1) := by decide +kernel
theorem dX5_plan_171 : decode cX5_plan 171 = .ok (.iload 5, 2) := by decide +kernel
theorem dX5_plan_173 : decode cX5_plan 173 = .ok (.invokevirtual 178, 3) := by decide +kernel
theorem dX5_plan_176 : decode cX5_plan 176 = .ok (.istore 9, 2) := by decide +kernel
theorem dX5_plan_178 : decode cX5_plan 178 = .ok (.aload_n 0, 1) := by decide +kernel
theorem dX5_plan_179 : decode cX5_plan 179 = .ok (.invokevirtual 181, 3) := by decide +kernel
theorem dX5_plan_182 : decode cX5_plan 182 = .ok (.iload 5, 2) := by decide +kernel
theorem dX5_plan_184 : decode cX5_plan 184 = .ok (.iconst 1, 1) := by decide +kernel
theorem dX5_plan_185 : decode cX5_plan 185 = .ok (.if_icmp .ne 8, 3) := by decide +kernel
theorem dX5_plan_188 : decode cX5_plan 188 = .ok (.iload 8, 2) := by decide +kernel
theorem dX5_plan_190 : decode cX5_plan 190 = .ok (.goto 20, 3) := by decide +kernel
theorem dX5_plan_193 : decode cX5_plan 193 = .ok (.iload 8, 2) := by decide +kernel
theorem dX5_plan_195 : decode cX5_plan 195 = .ok (.bipush (-9), 2) := by decide +kernel
theorem dX5_plan_197 : decode cX5_plan 197 = .ok (.if_icmp .ne 8, 3) := by decide +kernel
theorem dX5_plan_200 : decode cX5_plan 200 = .ok (.iload 9, 2) := by decide +kernel
theorem dX5_plan_202 : decode cX5_plan 202 = .ok (.goto 8, 3) := by decide +kernel
theorem dX5_plan_205 : decode cX5_plan 205 = .ok (.bipush (-100), 2) := by decide +kernel
theorem dX5_plan_207 : decode cX5_plan 207 = .ok (.iload 8, 2) := by decide +kernel
theorem dX5_plan_209 : decode cX5_plan 209 = .ok (.isub, 1) := by decide +kernel
theorem dX5_plan_210 : decode cX5_plan 210 = .ok (.ireturn, 1) := by decide +kernel
theorem dX5_tellPlan_0 : decode cX5_tellPlan 0 = .ok (.iload_n 1, 1) := by decide +kernel
theorem dX5_tellPlan_1 : decode cX5_tellPlan 1 = .ok (.bipush 10, 2) := by decide +kernel
theorem dX5_tellPlan_3 : decode cX5_tellPlan 3 = .ok (.if_icmp .lt 29, 3) := by decide +kernel
theorem dX5_tellPlan_6 : decode cX5_tellPlan 6 = .ok (.aload_n 0, 1) := by decide +kernel
theorem dX5_tellPlan_7 : decode cX5_tellPlan 7 = .ok (.iload_n 1, 1) := by decide +kernel
theorem dX5_tellPlan_8 : decode cX5_tellPlan 8 = .ok (.bipush 10, 2) := by decide +kernel
theorem dX5_tellPlan_10 : decode cX5_tellPlan 10 = .ok (.isub, 1) := by decide +kernel
theorem dX5_tellPlan_11 : decode cX5_tellPlan 11 = .ok (.invokevirtual 132, 3) := by decide +kernel
theorem dX5_tellPlan_14 : decode cX5_tellPlan 14 = .ok (.ifCond .eq 15, 3) := by decide +kernel
theorem dX5_tellPlan_17 : decode cX5_tellPlan 17 = .ok (.aload_n 0, 1) := by decide +kernel
theorem dX5_tellPlan_18 : decode cX5_tellPlan 18 = .ok (.getfield 22, 3) := by decide +kernel
theorem dX5_tellPlan_21 : decode cX5_tellPlan 21 = .ok (.iload_n 1, 1) := by decide +kernel
theorem dX5_tellPlan_22 : decode cX5_tellPlan 22 = .ok (.bipush 10, 2) := by decide +kernel
theorem dX5_tellPlan_24 : decode cX5_tellPlan 24 = .ok (.isub, 1) := by decide +kernel
theorem dX5_tellPlan_25 : decode cX5_tellPlan 25 = .ok (.iaload, 1) := by decide +kernel
theorem dX5_tellPlan_26 : decode cX5_tellPlan 26 = .ok (.goto 5, 3) := by decide +kernel
theorem dX5_tellPlan_29 : decode cX5_tellPlan 29 = .ok (.bipush (-9), 2) := by decide +kernel
theorem dX5_tellPlan_31 : decode cX5_tellPlan 31 = .ok (.ireturn, 1) := by decide +kernel
theorem dX5_tellPlan_32 : decode cX5_tellPlan 32 = .ok (.iload_n 1, 1) := by decide +kernel
theorem dX5_tellPlan_33 : decode cX5_tellPlan 33 = .ok (.tableswitch 64 0 4 #[35, 64, 41, 64, 59], 35) := by decide +kernel
theorem dX5_tellPlan_68 : decode cX5_tellPlan 68 = .ok (.aload_n 0, 1) := by decide +kernel
theorem dX5_tellPlan_69 : decode cX5_tellPlan 69 = .ok (.iconst 0, 1) := by decide +kernel
theorem dX5_tellPlan_70 : decode cX5_tellPlan 70 = .ok (.invokevirtual 129, 3) := by decide +kernel
theorem dX5_tellPlan_73 : decode cX5_tellPlan 73 = .ok (.ireturn, 1) := by decide +kernel
theorem dX5_tellPlan_74 : decode cX5_tellPlan 74 = .ok (.aload_n 0, 1) := by decide +kernel
theorem dX5_tellPlan_75 : decode cX5_tellPlan 75 = .ok (.aload_n 0, 1) := by decide +kernel
theorem dX5_tellPlan_76 : decode cX5_tellPlan 76 = .ok (.iconst 0, 1) := by decide +kernel
theorem dX5_tellPlan_77 : decode cX5_tellPlan 77 = .ok (.invokevirtual 129, 3) := by decide +kernel
theorem dX5_tellPlan_80 : decode cX5_tellPlan 80 = .ok (.invokevirtual 151, 3) := by decide +kernel
theorem dX5_tellPlan_83 : decode cX5_tellPlan 83 = .ok (.ifCond .eq 7, 3) := by decide +kernel
theorem dX5_tellPlan_86 : decode cX5_tellPlan 86 = .ok (.iconst 1, 1) := by decide +kernel
theorem dX5_tellPlan_87 : decode cX5_tellPlan 87 = .ok (.goto 4, 3) := by decide +kernel
theorem dX5_tellPlan_90 : decode cX5_tellPlan 90 = .ok (.iconst 0, 1) := by decide +kernel
theorem dX5_tellPlan_91 : decode cX5_tellPlan 91 = .ok (.ireturn, 1) := by decide +kernel
theorem dX5_tellPlan_92 : decode cX5_tellPlan 92 = .ok (.aload_n 0, 1) := by decide +kernel
theorem dX5_tellPlan_93 : decode cX5_tellPlan 93 = .ok (.getfield 157, 3) := by decide +kernel
theorem dX5_tellPlan_96 : decode cX5_tellPlan 96 = .ok (.ireturn, 1) := by decide +kernel
theorem dX5_tellPlan_97 : decode cX5_tellPlan 97 = .ok (.iconst 0, 1) := by decide +kernel
theorem dX5_tellPlan_98 : decode cX5_tellPlan 98 = .ok (.istore_n 2, 1) := by decide +kernel
theorem dX5_tellPlan_99 : decode cX5_tellPlan 99 = .ok (.iconst 0, 1) := by decide +kernel
theorem dX5_tellPlan_100 : decode cX5_tellPlan 100 = .ok (.istore_n 3, 1) := by decide +kernel
theorem dX5_tellPlan_101 : decode cX5_tellPlan 101 = .ok (.iload_n 3, 1) := by decide +kernel
theorem dX5_tellPlan_102 : decode cX5_tellPlan 102 = .ok (.aload_n 0, 1) := by decide +kernel
theorem dX5_tellPlan_103 : decode cX5_tellPlan 103 = .ok (.invokevirtual 59, 3) := by decide +kernel
theorem dX5_tellPlan_106 : decode cX5_tellPlan 106 = .ok (.if_icmp .ge 18, 3) := by decide +kernel
theorem dX5_tellPlan_109 : decode cX5_tellPlan 109 = .ok (.iload_n 2, 1) := by decide +kernel
theorem dX5_tellPlan_110 : decode cX5_tellPlan 110 = .ok (.aload_n 0, 1) := by decide +kernel
theorem dX5_tellPlan_111 : decode cX5_tellPlan 111 = .ok (.getfield 22, 3) := by decide +kernel
theorem dX5_tellPlan_114 : decode cX5_tellPlan 114 = .ok (.iload_n 3, 1) := by decide +kernel
theorem dX5_tellPlan_115 : decode cX5_tellPlan 115 = .ok (.iaload, 1) := by decide +kernel
theorem dX5_tellPlan_116 : decode cX5_tellPlan 116 = .ok (.iadd, 1) := by decide +kernel
theorem dX5_tellPlan_117 : decode cX5_tellPlan 117 = .ok (.istore_n 2, 1) := by decide +kernel
theorem dX5_tellPlan_118 : decode cX5_tellPlan 118 = .ok (.iinc 3 1, 3) := by decide +kernel
theorem dX5_tellPlan_121 : decode cX5_tellPlan 121 = .ok (.goto (-20), 3) := by decide +kernel
theorem dX5_tellPlan_124 : decode cX5_tellPlan 124 = .ok (.iload_n 2, 1) := by decide +kernel
theorem dX5_tellPlan_125 : decode cX5_tellPlan 125 = .ok (.ireturn, 1) := by decide +kernel
theorem dX5_when_0 : decode cX5_when 0 = .ok (.aload_n 0, 1) := by decide +kernel
theorem dX5_when_1 : decode cX5_when 1 = .ok (.iload_n 1, 1) := by decide +kernel
theorem dX5_when_2 : decode cX5_when 2 = .ok (.invokevirtual 132, 3) := by decide +kernel
theorem dX5_when_5 : decode cX5_when 5 = .ok (.ifCond .ne 5, 3) := by decide +kernel
theorem dX5_when_8 : decode cX5_when 8 = .ok (.iconst (-1), 1) := by decide +kernel
theorem dX5_when_9 : decode cX5_when 9 = .ok (.ireturn, 1) := by decide +kernel
theorem dX5_when_10 : decode cX5_when 10 = .ok (.iconst 0, 1) := by decide +kernel
theorem dX5_when_11 : decode cX5_when 11 = .ok (.istore_n 2, 1) := by decide +kernel
theorem dX5_when_12 : decode cX5_when 12 = .ok (.iload_n 2, 1) := by decide +kernel
theorem dX5_when_13 : decode cX5_when 13 = .ok (.bipush 20, 2) := by decide +kernel
theorem dX5_when_15 : decode cX5_when 15 = .ok (.if_icmp .gt 18, 3) := by decide +kernel
theorem dX5_when_18 : decode cX5_when 18 = .ok (.aload_n 0, 1) := by decide +kernel
theorem dX5_when_19 : decode cX5_when 19 = .ok (.iload_n 1, 1) := by decide +kernel
theorem dX5_when_20 : decode cX5_when 20 = .ok (.iload_n 2, 1) := by decide +kernel
theorem dX5_when_21 : decode cX5_when 21 = .ok (.invokevirtual 116, 3) := by decide +kernel
theorem dX5_when_24 : decode cX5_when 24 = .ok (.ifCond .le 9, 3) := by decide +kernel
theorem dX5_when_27 : decode cX5_when 27 = .ok (.iinc 2 1, 3) := by decide +kernel
theorem dX5_when_30 : decode cX5_when 30 = .ok (.goto (-18), 3) := by decide +kernel
theorem dX5_when_33 : decode cX5_when 33 = .ok (.iload_n 2, 1) := by decide +kernel
theorem dX5_when_34 : decode cX5_when 34 = .ok (.bipush 20, 2) := by decide +kernel
theorem dX5_when_36 : decode cX5_when 36 = .ok (.if_icmp .gt 7, 3) := by decide +kernel
theorem dX5_when_39 : decode cX5_when 39 = .ok (.iload_n 2, 1) := by decide +kernel
theorem dX5_when_40 : decode cX5_when 40 = .ok (.goto 5, 3) := by decide +kernel
theorem dX5_when_43 : decode cX5_when 43 = .ok (.bipush (-9), 2) := by decide +kernel
theorem dX5_when_45 : decode cX5_when 45 = .ok (.ireturn, 1) := by decide +kernel
theorem dX5_opens_0 : decode cX5_opens 0 = .ok (.aload_n 0, 1) := by decide +kernel
theorem dX5_opens_1 : decode cX5_opens 1 = .ok (.getfield 53, 3) := by decide +kernel
theorem dX5_opens_4 : decode cX5_opens 4 = .ok (.ifCond .ne 6, 3) := by decide +kernel
theorem dX5_opens_7 : decode cX5_opens 7 = .ok (.bipush (-3), 2) := by decide +kernel
theorem dX5_opens_9 : decode cX5_opens 9 = .ok (.ireturn, 1) := by decide +kernel
theorem dX5_opens_10 : decode cX5_opens 10 = .ok (.iconst 0, 1) := by decide +kernel
theorem dX5_opens_11 : decode cX5_opens 11 = .ok (.istore_n 1, 1) := by decide +kernel
theorem dX5_opens_12 : decode cX5_opens 12 = .ok (.iload_n 1, 1) := by decide +kernel
theorem dX5_opens_13 : decode cX5_opens 13 = .ok (.bipush 20, 2) := by decide +kernel
theorem dX5_opens_15 : decode cX5_opens 15 = .ok (.if_icmp .gt 21, 3) := by decide +kernel
theorem dX5_opens_18 : decode cX5_opens 18 = .ok (.aload_n 0, 1) := by decide +kernel
theorem dX5_opens_19 : decode cX5_opens 19 = .ok (.aload_n 0, 1) := by decide +kernel
theorem dX5_opens_20 : decode cX5_opens 20 = .ok (.iload_n 1, 1) := by decide +kernel
theorem dX5_opens_21 : decode cX5_opens 21 = .ok (.invokevirtual 129, 3) := by decide +kernel
theorem dX5_opens_24 : decode cX5_opens 24 = .ok (.invokevirtual 151, 3) := by decide +kernel
theorem dX5_opens_27 : decode cX5_opens 27 = .ok (.ifCond .ne 9, 3) := by decide +kernel
theorem dX5_opens_30 : decode cX5_opens 30 = .ok (.iinc 1 1, 3) := by decide +kernel
theorem dX5_opens_33 : decode cX5_opens 33 = .ok (.goto (-21), 3) := by decide +kernel
theorem dX5_opens_36 : decode cX5_opens 36 = .ok (.iload_n 1, 1) := by decide +kernel
theorem dX5_opens_37 : decode cX5_opens 37 = .ok (.bipush 20, 2) := by decide +kernel
theorem dX5_opens_39 : decode cX5_opens 39 = .ok (.if_icmp .gt 7, 3) := by decide +kernel
theorem dX5_opens_42 : decode cX5_opens 42 = .ok (.iload_n 1, 1) := by decide +kernel
theorem dX5_opens_43 : decode cX5_opens 43 = .ok (.goto 5, 3) := by decide +kernel
theorem dX5_opens_46 : decode cX5_opens 46 = .ok (.bipush (-9), 2) := by decide +kernel
theorem dX5_opens_48 : decode cX5_opens 48 = .ok (.ireturn, 1) := by decide +kernel
theorem dX5_bars_0 : decode cX5_bars 0 = .ok (.iload_n 1, 1) := by decide +kernel
theorem dX5_bars_1 : decode cX5_bars 1 = .ok (.iconst 0, 1) := by decide +kernel
theorem dX5_bars_2 : decode cX5_bars 2 = .ok (.bipush 20, 2) := by decide +kernel
theorem dX5_bars_4 : decode cX5_bars 4 = .ok (.invokestatic 49, 3) := by decide +kernel
theorem dX5_bars_7 : decode cX5_bars 7 = .ok (.ifCond .ne 6, 3) := by decide +kernel
theorem dX5_bars_10 : decode cX5_bars 10 = .ok (.bipush (-2), 2) := by decide +kernel
theorem dX5_bars_12 : decode cX5_bars 12 = .ok (.ireturn, 1) := by decide +kernel
theorem dX5_bars_13 : decode cX5_bars 13 = .ok (.aload_n 0, 1) := by decide +kernel
theorem dX5_bars_14 : decode cX5_bars 14 = .ok (.getfield 53, 3) := by decide +kernel
theorem dX5_bars_17 : decode cX5_bars 17 = .ok (.ifCond .ne 6, 3) := by decide +kernel
theorem dX5_bars_20 : decode cX5_bars 20 = .ok (.bipush (-3), 2) := by decide +kernel
theorem dX5_bars_22 : decode cX5_bars 22 = .ok (.ireturn, 1) := by decide +kernel
theorem dX5_bars_23 : decode cX5_bars 23 = .ok (.aload_n 0, 1) := by decide +kernel
theorem dX5_bars_24 : decode cX5_bars 24 = .ok (.iload_n 1, 1) := by decide +kernel
theorem dX5_bars_25 : decode cX5_bars 25 = .ok (.invokevirtual 129, 3) := by decide +kernel
theorem dX5_bars_28 : decode cX5_bars 28 = .ok (.istore_n 2, 1) := by decide +kernel
theorem dX5_bars_29 : decode cX5_bars 29 = .ok (.bipush (-9), 2) := by decide +kernel
theorem dX5_bars_31 : decode cX5_bars 31 = .ok (.istore_n 3, 1) := by decide +kernel
theorem dX5_bars_32 : decode cX5_bars 32 = .ok (.iconst 0, 1) := by decide +kernel
theorem dX5_bars_33 : decode cX5_bars 33 = .ok (.istore 4, 2) := by decide +kernel
theorem dX5_bars_35 : decode cX5_bars 35 = .ok (.iload 4, 2) := by decide +kernel
theorem dX5_bars_37 : decode cX5_bars 37 = .ok (.iconst 1, 1) := by decide +kernel
theorem dX5_bars_38 : decode cX5_bars 38 = .ok (.aload_n 0, 1) := by decide +kernel
theorem dX5_bars_39 : decode cX5_bars 39 = .ok (.invokevirtual 59, 3) := by decide +kernel
theorem dX5_bars_42 : decode cX5_bars 42 = .ok (.ishl, 1) := by decide +kernel
theorem dX5_bars_43 : decode cX5_bars 43 = .ok (.if_icmp .ge 55, 3) := by decide +kernel
theorem dX5_bars_46 : decode cX5_bars 46 = .ok (.iload_n 3, 1) := by decide +kernel
theorem dX5_bars_47 : decode cX5_bars 47 = .ok (.bipush (-9), 2) := by decide +kernel
theorem dX5_bars_49 : decode cX5_bars 49 = .ok (.if_icmp .eq 15, 3) := by decide +kernel
theorem dX5_bars_52 : decode cX5_bars 52 = .ok (.iload 4, 2) := by decide +kernel
theorem dX5_bars_54 : decode cX5_bars 54 = .ok (.invokestatic 138, 3) := by decide +kernel
theorem dX5_bars_57 : decode cX5_bars 57 = .ok (.iload_n 3, 1) := by decide +kernel
theorem dX5_bars_58 : decode cX5_bars 58 = .ok (.invokestatic 138, 3) := by decide +kernel
theorem dX5_bars_61 : decode cX5_bars 61 = .ok (.if_icmp .ge 7, 3) := by decide +kernel
theorem dX5_bars_64 : decode cX5_bars 64 = .ok (.iconst 1, 1) := by decide +kernel
theorem dX5_bars_65 : decode cX5_bars 65 = .ok (.goto 4, 3) := by decide +kernel
theorem dX5_bars_68 : decode cX5_bars 68 = .ok (.iconst 0, 1) := by decide +kernel
theorem dX5_bars_69 : decode cX5_bars 69 = .ok (.istore 5, 2) := by decide +kernel
theorem dX5_bars_71 : decode cX5_bars 71 = .ok (.iload 5, 2) := by decide +kernel
theorem dX5_bars_73 : decode cX5_bars 73 = .ok (.ifCond .eq 19, 3) := by decide +kernel
theorem dX5_bars_76 : decode cX5_bars 76 = .ok (.aload_n 0, 1) := by decide +kernel
theorem dX5_bars_77 : decode cX5_bars 77 = .ok (.iload_n 2, 1) := by decide +kernel
theorem dX5_bars_78 : decode cX5_bars 78 = .ok (.iload 4, 2) := by decide +kernel
theorem dX5_bars_80 : decode cX5_bars 80 = .ok (.iconst (-1), 1) := by decide +kernel
theorem dX5_bars_81 : decode cX5_bars 81 = .ok (.ixor, 1) := by decide +kernel
theorem dX5_bars_82 : decode cX5_bars 82 = .ok (.iand, 1) := by decide +kernel
theorem dX5_bars_83 : decode cX5_bars 83 = .ok (.invokevirtual 151, 3) := by decide +kernel
theorem dX5_bars_86 : decode cX5_bars 86 = .ok (.ifCond .ne 6, 3) := by decide +kernel
theorem dX5_bars_89 : decode cX5_bars 89 = .ok (.iload 4, 2) := by decide +kernel
theorem dX5_bars_91 : decode cX5_bars 91 = .ok (.istore_n 3, 1) := by decide +kernel
theorem dX5_bars_92 : decode cX5_bars 92 = .ok (.iinc 4 1, 3) := by decide +kernel
theorem dX5_bars_95 : decode cX5_bars 95 = .ok (.goto (-60), 3) := by decide +kernel
theorem dX5_bars_98 : decode cX5_bars 98 = .ok (.iload_n 3, 1) := by decide +kernel
theorem dX5_bars_99 : decode cX5_bars 99 = .ok (.ireturn, 1) := by decide +kernel
theorem dX5_dates_0 : decode cX5_dates 0 = .ok (.aload_n 0, 1) := by decide +kernel
theorem dX5_dates_1 : decode cX5_dates 1 = .ok (.getfield 53, 3) := by decide +kernel
theorem dX5_dates_4 : decode cX5_dates 4 = .ok (.ifCond .ne 6, 3) := by decide +kernel
theorem dX5_dates_7 : decode cX5_dates 7 = .ok (.bipush (-3), 2) := by decide +kernel
theorem dX5_dates_9 : decode cX5_dates 9 = .ok (.ireturn, 1) := by decide +kernel
theorem dX5_dates_10 : decode cX5_dates 10 = .ok (.iload_n 1, 1) := by decide +kernel
theorem dX5_dates_11 : decode cX5_dates 11 = .ok (.iconst 0, 1) := by decide +kernel
theorem dX5_dates_12 : decode cX5_dates 12 = .ok (.iconst 1, 1) := by decide +kernel
theorem dX5_dates_13 : decode cX5_dates 13 = .ok (.aload_n 0, 1) := by decide +kernel
theorem dX5_dates_14 : decode cX5_dates 14 = .ok (.invokevirtual 59, 3) := by decide +kernel
theorem dX5_dates_17 : decode cX5_dates 17 = .ok (.ishl, 1) := by decide +kernel
theorem dX5_dates_18 : decode cX5_dates 18 = .ok (.iconst 1, 1) := by decide +kernel
theorem dX5_dates_19 : decode cX5_dates 19 = .ok (.isub, 1) := by decide +kernel
theorem dX5_dates_20 : decode cX5_dates 20 = .ok (.invokestatic 49, 3) := by decide +kernel
theorem dX5_dates_23 : decode cX5_dates 23 = .ok (.ifCond .ne 6, 3) := by decide +kernel
theorem dX5_dates_26 : decode cX5_dates 26 = .ok (.bipush (-2), 2) := by decide +kernel
theorem dX5_dates_28 : decode cX5_dates 28 = .ok (.ireturn, 1) := by decide +kernel
theorem dX5_dates_29 : decode cX5_dates 29 = .ok (.iconst 0, 1) := by decide +kernel
theorem dX5_dates_30 : decode cX5_dates 30 = .ok (.istore_n 2, 1) := by decide +kernel
theorem dX5_dates_31 : decode cX5_dates 31 = .ok (.iconst 0, 1) := by decide +kernel
theorem dX5_dates_32 : decode cX5_dates 32 = .ok (.istore_n 3, 1) := by decide +kernel
theorem dX5_dates_33 : decode cX5_dates 33 = .ok (.iload_n 3, 1) := by decide +kernel
theorem dX5_dates_34 : decode cX5_dates 34 = .ok (.bipush 20, 2) := by decide +kernel
theorem dX5_dates_36 : decode cX5_dates 36 = .ok (.if_icmp .gt 28, 3) := by decide +kernel
theorem dX5_dates_39 : decode cX5_dates 39 = .ok (.iload_n 2, 1) := by decide +kernel
theorem dX5_dates_40 : decode cX5_dates 40 = .ok (.aload_n 0, 1) := by decide +kernel
theorem dX5_dates_41 : decode cX5_dates 41 = .ok (.iload_n 3, 1) := by decide +kernel
theorem dX5_dates_42 : decode cX5_dates 42 = .ok (.invokevirtual 129, 3) := by decide +kernel
theorem dX5_dates_45 : decode cX5_dates 45 = .ok (.iload_n 1, 1) := by decide +kernel
theorem dX5_dates_46 : decode cX5_dates 46 = .ok (.if_icmp .ne 9, 3) := by decide +kernel
theorem dX5_dates_49 : decode cX5_dates 49 = .ok (.iconst 1, 1) := by decide +kernel
theorem dX5_dates_50 : decode cX5_dates 50 = .ok (.iload_n 3, 1) := by decide +kernel
theorem dX5_dates_51 : decode cX5_dates 51 = .ok (.ishl, 1) := by decide +kernel
theorem dX5_dates_52 : decode cX5_dates 52 = .ok (.goto 4, 3) := by decide +kernel
theorem dX5_dates_55 : decode cX5_dates 55 = .ok (.iconst 0, 1) := by decide +kernel
theorem dX5_dates_56 : decode cX5_dates 56 = .ok (.ior, 1) := by decide +kernel
theorem dX5_dates_57 : decode cX5_dates 57 = .ok (.istore_n 2, 1) := by decide +kernel
theorem dX5_dates_58 : decode cX5_dates 58 = .ok (.iinc 3 1, 3) := by decide +kernel
theorem dX5_dates_61 : decode cX5_dates 61 = .ok (.goto (-28), 3) := by decide +kernel
theorem dX5_dates_64 : decode cX5_dates 64 = .ok (.iload_n 2, 1) := by decide +kernel
theorem dX5_dates_65 : decode cX5_dates 65 = .ok (.ireturn, 1) := by decide +kernel
theorem dX5_reading_0 : decode cX5_reading 0 = .ok (.aload_n 0, 1) := by decide +kernel
theorem dX5_reading_1 : decode cX5_reading 1 = .ok (.iload_n 1, 1) := by decide +kernel
theorem dX5_reading_2 : decode cX5_reading 2 = .ok (.invokevirtual 132, 3) := by decide +kernel
theorem dX5_reading_5 : decode cX5_reading 5 = .ok (.ifCond .ne 5, 3) := by decide +kernel
theorem dX5_reading_8 : decode cX5_reading 8 = .ok (.iconst (-1), 1) := by decide +kernel
theorem dX5_reading_9 : decode cX5_reading 9 = .ok (.ireturn, 1) := by decide +kernel
theorem dX5_reading_10 : decode cX5_reading 10 = .ok (.iload_n 2, 1) := by decide +kernel
theorem dX5_reading_11 : decode cX5_reading 11 = .ok (.iconst 0, 1) := by decide +kernel
theorem dX5_reading_12 : decode cX5_reading 12 = .ok (.bipush 20, 2) := by decide +kernel
theorem dX5_reading_14 : decode cX5_reading 14 = .ok (.invokestatic 49, 3) := by decide +kernel
theorem dX5_reading_17 : decode cX5_reading 17 = .ok (.ifCond .eq 12, 3) := by decide +kernel
theorem dX5_reading_20 : decode cX5_reading 20 = .ok (.iload_n 3, 1) := by decide +kernel
theorem dX5_reading_21 : decode cX5_reading 21 = .ok (.iconst 0, 1) := by decide +kernel
theorem dX5_reading_22 : decode cX5_reading 22 = .ok (.iconst 1, 1) := by decide +kernel
theorem dX5_reading_23 : decode cX5_reading 23 = .ok (.invokestatic 49, 3) := by decide +kernel
theorem dX5_reading_26 : decode cX5_reading 26 = .ok (.ifCond .ne 6, 3) := by decide +kernel
theorem dX5_reading_29 : decode cX5_reading 29 = .ok (.bipush (-2), 2) := by decide +kernel
theorem dX5_reading_31 : decode cX5_reading 31 = .ok (.ireturn, 1) := by decide +kernel
theorem dX5_reading_32 : decode cX5_reading 32 = .ok (.aload_n 0, 1) := by decide +kernel
theorem dX5_reading_33 : decode cX5_reading 33 = .ok (.getfield 102, 3) := by decide +kernel
theorem dX5_reading_36 : decode cX5_reading 36 = .ok (.bipush 8, 2) := by decide +kernel
theorem dX5_reading_38 : decode cX5_reading 38 = .ok (.if_icmp .ne 6, 3) := by decide +kernel
theorem dX5_reading_41 : decode cX5_reading 41 = .ok (.bipush (-4), 2) := by decide +kernel
theorem dX5_reading_43 : decode cX5_reading 43 = .ok (.ireturn, 1) := by decide +kernel
theorem dX5_reading_44 : decode cX5_reading 44 = .ok (.aload_n 0, 1) := by decide +kernel
theorem dX5_reading_45 : decode cX5_reading 45 = .ok (.getfield 34, 3) := by decide +kernel
theorem dX5_reading_48 : decode cX5_reading 48 = .ok (.aload_n 0, 1) := by decide +kernel
theorem dX5_reading_49 : decode cX5_reading 49 = .ok (.getfield 102, 3) := by decide +kernel
theorem dX5_reading_52 : decode cX5_reading 52 = .ok (.iload_n 1, 1) := by decide +kernel
theorem dX5_reading_53 : decode cX5_reading 53 = .ok (.iastore, 1) := by decide +kernel
theorem dX5_reading_54 : decode cX5_reading 54 = .ok (.aload_n 0, 1) := by decide +kernel
theorem dX5_reading_55 : decode cX5_reading 55 = .ok (.getfield 37, 3) := by decide +kernel
theorem dX5_reading_58 : decode cX5_reading 58 = .ok (.aload_n 0, 1) := by decide +kernel
theorem dX5_reading_59 : decode cX5_reading 59 = .ok (.getfield 102, 3) := by decide +kernel
theorem dX5_reading_62 : decode cX5_reading 62 = .ok (.iload_n 2, 1) := by decide +kernel
theorem dX5_reading_63 : decode cX5_reading 63 = .ok (.iastore, 1) := by decide +kernel
theorem dX5_reading_64 : decode cX5_reading 64 = .ok (.aload_n 0, 1) := by decide +kernel
theorem dX5_reading_65 : decode cX5_reading 65 = .ok (.getfield 40, 3) := by decide +kernel
theorem dX5_reading_68 : decode cX5_reading 68 = .ok (.aload_n 0, 1) := by decide +kernel
theorem dX5_reading_69 : decode cX5_reading 69 = .ok (.getfield 102, 3) := by decide +kernel
theorem dX5_reading_72 : decode cX5_reading 72 = .ok (.iload_n 3, 1) := by decide +kernel
theorem dX5_reading_73 : decode cX5_reading 73 = .ok (.iastore, 1) := by decide +kernel
theorem dX5_reading_74 : decode cX5_reading 74 = .ok (.aload_n 0, 1) := by decide +kernel
theorem dX5_reading_75 : decode cX5_reading 75 = .ok (.dup, 1) := by decide +kernel
theorem dX5_reading_76 : decode cX5_reading 76 = .ok (.getfield 102, 3) := by decide +kernel
theorem dX5_reading_79 : decode cX5_reading 79 = .ok (.iconst 1, 1) := by decide +kernel
theorem dX5_reading_80 : decode cX5_reading 80 = .ok (.iadd, 1) := by decide +kernel
theorem dX5_reading_81 : decode cX5_reading 81 = .ok (.putfield 102, 3) := by decide +kernel
theorem dX5_reading_84 : decode cX5_reading 84 = .ok (.aload_n 0, 1) := by decide +kernel
theorem dX5_reading_85 : decode cX5_reading 85 = .ok (.getfield 102, 3) := by decide +kernel
theorem dX5_reading_88 : decode cX5_reading 88 = .ok (.iconst 1, 1) := by decide +kernel
theorem dX5_reading_89 : decode cX5_reading 89 = .ok (.isub, 1) := by decide +kernel
theorem dX5_reading_90 : decode cX5_reading 90 = .ok (.ireturn, 1) := by decide +kernel
theorem dX5_back_0 : decode cX5_back 0 = .ok (.iload_n 1, 1) := by decide +kernel
theorem dX5_back_1 : decode cX5_back 1 = .ok (.iconst 0, 1) := by decide +kernel
theorem dX5_back_2 : decode cX5_back 2 = .ok (.aload_n 0, 1) := by decide +kernel
theorem dX5_back_3 : decode cX5_back 3 = .ok (.getfield 102, 3) := by decide +kernel
theorem dX5_back_6 : decode cX5_back 6 = .ok (.invokestatic 49, 3) := by decide +kernel
theorem dX5_back_9 : decode cX5_back 9 = .ok (.ifCond .ne 6, 3) := by decide +kernel
theorem dX5_back_12 : decode cX5_back 12 = .ok (.bipush (-2), 2) := by decide +kernel
theorem dX5_back_14 : decode cX5_back 14 = .ok (.ireturn, 1) := by decide +kernel
theorem dX5_back_15 : decode cX5_back 15 = .ok (.aload_n 0, 1) := by decide +kernel
theorem dX5_back_16 : decode cX5_back 16 = .ok (.dup, 1) := by decide +kernel
theorem dX5_back_17 : decode cX5_back 17 = .ok (.getfield 102, 3) := by decide +kernel
theorem dX5_back_20 : decode cX5_back 20 = .ok (.iload_n 1, 1) := by decide +kernel
theorem dX5_back_21 : decode cX5_back 21 = .ok (.isub, 1) := by decide +kernel
theorem dX5_back_22 : decode cX5_back 22 = .ok (.putfield 102, 3) := by decide +kernel
theorem dX5_back_25 : decode cX5_back 25 = .ok (.aload_n 0, 1) := by decide +kernel
theorem dX5_back_26 : decode cX5_back 26 = .ok (.getfield 102, 3) := by decide +kernel
theorem dX5_back_29 : decode cX5_back 29 = .ok (.ireturn, 1) := by decide +kernel
theorem dX5_areSo_0 : decode cX5_areSo 0 = .ok (.iconst 0, 1) := by decide +kernel
theorem dX5_areSo_1 : decode cX5_areSo 1 = .ok (.istore_n 1, 1) := by decide +kernel
theorem dX5_areSo_2 : decode cX5_areSo 2 = .ok (.iload_n 1, 1) := by decide +kernel
theorem dX5_areSo_3 : decode cX5_areSo 3 = .ok (.aload_n 0, 1) := by decide +kernel
theorem dX5_areSo_4 : decode cX5_areSo 4 = .ok (.getfield 102, 3) := by decide +kernel
theorem dX5_areSo_7 : decode cX5_areSo 7 = .ok (.if_icmp .ge 46, 3) := by decide +kernel
theorem dX5_areSo_10 : decode cX5_areSo 10 = .ok (.aload_n 0, 1) := by decide +kernel
theorem dX5_areSo_11 : decode cX5_areSo 11 = .ok (.aload_n 0, 1) := by decide +kernel
theorem dX5_areSo_12 : decode cX5_areSo 12 = .ok (.getfield 34, 3) := by decide +kernel
theorem dX5_areSo_15 : decode cX5_areSo 15 = .ok (.iload_n 1, 1) := by decide +kernel
theorem dX5_areSo_16 : decode cX5_areSo 16 = .ok (.iaload, 1) := by decide +kernel
theorem dX5_areSo_17 : decode cX5_areSo 17 = .ok (.aload_n 0, 1) := by decide +kernel
theorem dX5_areSo_18 : decode cX5_areSo 18 = .ok (.getfield 37, 3) := by decide +kernel
theorem dX5_areSo_21 : decode cX5_areSo 21 = .ok (.iload_n 1, 1) := by decide +kernel
theorem dX5_areSo_22 : decode cX5_areSo 22 = .ok (.iaload, 1) := by decide +kernel
theorem dX5_areSo_23 : decode cX5_areSo 23 = .ok (.invokevirtual 116, 3) := by decide +kernel
theorem dX5_areSo_26 : decode cX5_areSo 26 = .ok (.ifCond .ne 7, 3) := by decide +kernel
theorem dX5_areSo_29 : decode cX5_areSo 29 = .ok (.iconst 1, 1) := by decide +kernel
theorem dX5_areSo_30 : decode cX5_areSo 30 = .ok (.goto 4, 3) := by decide +kernel
theorem dX5_areSo_33 : decode cX5_areSo 33 = .ok (.iconst 0, 1) := by decide +kernel
theorem dX5_areSo_34 : decode cX5_areSo 34 = .ok (.istore_n 2, 1) := by decide +kernel
theorem dX5_areSo_35 : decode cX5_areSo 35 = .ok (.iload_n 2, 1) := by decide +kernel
theorem dX5_areSo_36 : decode cX5_areSo 36 = .ok (.aload_n 0, 1) := by decide +kernel
theorem dX5_areSo_37 : decode cX5_areSo 37 = .ok (.getfield 40, 3) := by decide +kernel
theorem dX5_areSo_40 : decode cX5_areSo 40 = .ok (.iload_n 1, 1) := by decide +kernel
theorem dX5_areSo_41 : decode cX5_areSo 41 = .ok (.iaload, 1) := by decide +kernel
theorem dX5_areSo_42 : decode cX5_areSo 42 = .ok (.if_icmp .eq 5, 3) := by decide +kernel
theorem dX5_areSo_45 : decode cX5_areSo 45 = .ok (.iconst 0, 1) := by decide +kernel
theorem dX5_areSo_46 : decode cX5_areSo 46 = .ok (.ireturn, 1) := by decide +kernel
theorem dX5_areSo_47 : decode cX5_areSo 47 = .ok (.iinc 1 1, 3) := by decide +kernel
theorem dX5_areSo_50 : decode cX5_areSo 50 = .ok (.goto (-48), 3) := by decide +kernel
theorem dX5_areSo_53 : decode cX5_areSo 53 = .ok (.iconst 1, 1) := by decide +kernel
theorem dX5_areSo_54 : decode cX5_areSo 54 = .ok (.ireturn, 1) := by decide +kernel
theorem dX5_wets_0 : decode cX5_wets 0 = .ok (.aload_n 0, 1) := by decide +kernel
theorem dX5_wets_1 : decode cX5_wets 1 = .ok (.iload_n 1, 1) := by decide +kernel
theorem dX5_wets_2 : decode cX5_wets 2 = .ok (.invokevirtual 132, 3) := by decide +kernel
theorem dX5_wets_5 : decode cX5_wets 5 = .ok (.ifCond .ne 5, 3) := by decide +kernel
theorem dX5_wets_8 : decode cX5_wets 8 = .ok (.iconst (-1), 1) := by decide +kernel
theorem dX5_wets_9 : decode cX5_wets 9 = .ok (.ireturn, 1) := by decide +kernel
theorem dX5_wets_10 : decode cX5_wets 10 = .ok (.aload_n 0, 1) := by decide +kernel
theorem dX5_wets_11 : decode cX5_wets 11 = .ok (.getfield 22, 3) := by decide +kernel
theorem dX5_wets_14 : decode cX5_wets 14 = .ok (.iload_n 1, 1) := by decide +kernel
theorem dX5_wets_15 : decode cX5_wets 15 = .ok (.iaload, 1) := by decide +kernel
theorem dX5_wets_16 : decode cX5_wets 16 = .ok (.istore_n 2, 1) := by decide +kernel
theorem dX5_wets_17 : decode cX5_wets 17 = .ok (.iconst 0, 1) := by decide +kernel
theorem dX5_wets_18 : decode cX5_wets 18 = .ok (.istore_n 3, 1) := by decide +kernel
theorem dX5_wets_19 : decode cX5_wets 19 = .ok (.iconst 0, 1) := by decide +kernel
theorem dX5_wets_20 : decode cX5_wets 20 = .ok (.istore 4, 2) := by decide +kernel
theorem dX5_wets_22 : decode cX5_wets 22 = .ok (.iload 4, 2) := by decide +kernel
theorem dX5_wets_24 : decode cX5_wets 24 = .ok (.bipush 9, 2) := by decide +kernel
theorem dX5_wets_26 : decode cX5_wets 26 = .ok (.if_icmp .gt 35, 3) := by decide +kernel
theorem dX5_wets_29 : decode cX5_wets 29 = .ok (.aload_n 0, 1) := by decide +kernel
theorem dX5_wets_30 : decode cX5_wets 30 = .ok (.getfield 22, 3) := by decide +kernel
theorem dX5_wets_33 : decode cX5_wets 33 = .ok (.iload_n 1, 1) := by decide +kernel
theorem dX5_wets_34 : decode cX5_wets 34 = .ok (.iload 4, 2) := by decide +kernel
theorem dX5_wets_36 : decode cX5_wets 36 = .ok (.iastore, 1) := by decide +kernel
theorem dX5_wets_37 : decode cX5_wets 37 = .ok (.iload_n 3, 1) := by decide +kernel
theorem dX5_wets_38 : decode cX5_wets 38 = .ok (.aload_n 0, 1) := by decide +kernel
theorem dX5_wets_39 : decode cX5_wets 39 = .ok (.invokevirtual 184, 3) := by decide +kernel
theorem dX5_wets_42 : decode cX5_wets 42 = .ok (.ifCond .eq 10, 3) := by decide +kernel
theorem dX5_wets_45 : decode cX5_wets 45 = .ok (.iconst 1, 1) := by decide +kernel
theorem dX5_wets_46 : decode cX5_wets 46 = .ok (.iload 4, 2) := by decide +kernel
theorem dX5_wets_48 : decode cX5_wets 48 = .ok (.ishl, 1) := by decide +kernel
theorem dX5_wets_49 : decode cX5_wets 49 = .ok (.goto 4, 3) := by decide +kernel
theorem dX5_wets_52 : decode cX5_wets 52 = .ok (.iconst 0, 1) := by decide +kernel
theorem dX5_wets_53 : decode cX5_wets 53 = .ok (.ior, 1) := by decide +kernel
theorem dX5_wets_54 : decode cX5_wets 54 = .ok (.istore_n 3, 1) := by decide +kernel
theorem dX5_wets_55 : decode cX5_wets 55 = .ok (.iinc 4 1, 3) := by decide +kernel
theorem dX5_wets_58 : decode cX5_wets 58 = .ok (.goto (-36), 3) := by decide +kernel
theorem dX5_wets_61 : decode cX5_wets 61 = .ok (.aload_n 0, 1) := by decide +kernel
theorem dX5_wets_62 : decode cX5_wets 62 = .ok (.getfield 22, 3) := by decide +kernel
theorem dX5_wets_65 : decode cX5_wets 65 = .ok (.iload_n 1, 1) := by decide +kernel
theorem dX5_wets_66 : decode cX5_wets 66 = .ok (.iload_n 2, 1) := by decide +kernel
theorem dX5_wets_67 : decode cX5_wets 67 = .ok (.iastore, 1) := by decide +kernel
theorem dX5_wets_68 : decode cX5_wets 68 = .ok (.iload_n 3, 1) := by decide +kernel
theorem dX5_wets_69 : decode cX5_wets 69 = .ok (.ireturn, 1) := by decide +kernel
theorem dX5_kinds_0 : decode cX5_kinds 0 = .ok (.aload_n 0, 1) := by decide +kernel
theorem dX5_kinds_1 : decode cX5_kinds 1 = .ok (.iload_n 1, 1) := by decide +kernel
theorem dX5_kinds_2 : decode cX5_kinds 2 = .ok (.invokevirtual 132, 3) := by decide +kernel
theorem dX5_kinds_5 : decode cX5_kinds 5 = .ok (.ifCond .ne 5, 3) := by decide +kernel
theorem dX5_kinds_8 : decode cX5_kinds 8 = .ok (.iconst (-1), 1) := by decide +kernel
theorem dX5_kinds_9 : decode cX5_kinds 9 = .ok (.ireturn, 1) := by decide +kernel
theorem dX5_kinds_10 : decode cX5_kinds 10 = .ok (.aload_n 0, 1) := by decide +kernel
theorem dX5_kinds_11 : decode cX5_kinds 11 = .ok (.getfield 19, 3) := by decide +kernel
theorem dX5_kinds_14 : decode cX5_kinds 14 = .ok (.iload_n 1, 1) := by decide +kernel
theorem dX5_kinds_15 : decode cX5_kinds 15 = .ok (.iaload, 1) := by decide +kernel
theorem dX5_kinds_16 : decode cX5_kinds 16 = .ok (.istore_n 2, 1) := by decide +kernel
theorem dX5_kinds_17 : decode cX5_kinds 17 = .ok (.iconst 0, 1) := by decide +kernel
theorem dX5_kinds_18 : decode cX5_kinds 18 = .ok (.istore_n 3, 1) := by decide +kernel
theorem dX5_kinds_19 : decode cX5_kinds 19 = .ok (.iconst 0, 1) := by decide +kernel
theorem dX5_kinds_20 : decode cX5_kinds 20 = .ok (.istore 4, 2) := by decide +kernel
theorem dX5_kinds_22 : decode cX5_kinds 22 = .ok (.iload 4, 2) := by decide +kernel
theorem dX5_kinds_24 : decode cX5_kinds 24 = .ok (.iconst 3, 1) := by decide +kernel
theorem dX5_kinds_25 : decode cX5_kinds 25 = .ok (.if_icmp .ge 35, 3) := by decide +kernel
theorem dX5_kinds_28 : decode cX5_kinds 28 = .ok (.aload_n 0, 1) := by decide +kernel
theorem dX5_kinds_29 : decode cX5_kinds 29 = .ok (.getfield 19, 3) := by decide +kernel
theorem dX5_kinds_32 : decode cX5_kinds 32 = .ok (.iload_n 1, 1) := by decide +kernel
theorem dX5_kinds_33 : decode cX5_kinds 33 = .ok (.iload 4, 2) := by decide +kernel
theorem dX5_kinds_35 : decode cX5_kinds 35 = .ok (.iastore, 1) := by decide +kernel
theorem dX5_kinds_36 : decode cX5_kinds 36 = .ok (.iload_n 3, 1) := by decide +kernel
theorem dX5_kinds_37 : decode cX5_kinds 37 = .ok (.aload_n 0, 1) := by decide +kernel
theorem dX5_kinds_38 : decode cX5_kinds 38 = .ok (.invokevirtual 184, 3) := by decide +kernel
theorem dX5_kinds_41 : decode cX5_kinds 41 = .ok (.ifCond .eq 10, 3) := by decide +kernel
theorem dX5_kinds_44 : decode cX5_kinds 44 = .ok (.iconst 1, 1) := by decide +kernel
theorem dX5_kinds_45 : decode cX5_kinds 45 = .ok (.iload 4, 2) := by decide +kernel
theorem dX5_kinds_47 : decode cX5_kinds 47 = .ok (.ishl, 1) := by decide +kernel
theorem dX5_kinds_48 : decode cX5_kinds 48 = .ok (.goto 4, 3) := by decide +kernel
theorem dX5_kinds_51 : decode cX5_kinds 51 = .ok (.iconst 0, 1) := by decide +kernel
theorem dX5_kinds_52 : decode cX5_kinds 52 = .ok (.ior, 1) := by decide +kernel
theorem dX5_kinds_53 : decode cX5_kinds 53 = .ok (.istore_n 3, 1) := by decide +kernel
theorem dX5_kinds_54 : decode cX5_kinds 54 = .ok (.iinc 4 1, 3) := by decide +kernel
theorem dX5_kinds_57 : decode cX5_kinds 57 = .ok (.goto (-35), 3) := by decide +kernel
theorem dX5_kinds_60 : decode cX5_kinds 60 = .ok (.aload_n 0, 1) := by decide +kernel
theorem dX5_kinds_61 : decode cX5_kinds 61 = .ok (.getfield 19, 3) := by decide +kernel
theorem dX5_kinds_64 : decode cX5_kinds 64 = .ok (.iload_n 1, 1) := by decide +kernel
theorem dX5_kinds_65 : decode cX5_kinds 65 = .ok (.iload_n 2, 1) := by decide +kernel
theorem dX5_kinds_66 : decode cX5_kinds 66 = .ok (.iastore, 1) := by decide +kernel
theorem dX5_kinds_67 : decode cX5_kinds 67 = .ok (.iload_n 3, 1) := by decide +kernel
theorem dX5_kinds_68 : decode cX5_kinds 68 = .ok (.ireturn, 1) := by decide +kernel
theorem dX5_suns_0 : decode cX5_suns 0 = .ok (.aload_n 0, 1) := by decide +kernel
theorem dX5_suns_1 : decode cX5_suns 1 = .ok (.getfield 53, 3) := by decide +kernel
theorem dX5_suns_4 : decode cX5_suns 4 = .ok (.ifCond .ne 6, 3) := by decide +kernel
theorem dX5_suns_7 : decode cX5_suns 7 = .ok (.bipush (-3), 2) := by decide +kernel
theorem dX5_suns_9 : decode cX5_suns 9 = .ok (.ireturn, 1) := by decide +kernel
theorem dX5_suns_10 : decode cX5_suns 10 = .ok (.aload_n 0, 1) := by decide +kernel
theorem dX5_suns_11 : decode cX5_suns 11 = .ok (.getfield 90, 3) := by decide +kernel
theorem dX5_suns_14 : decode cX5_suns 14 = .ok (.istore_n 1, 1) := by decide +kernel
theorem dX5_suns_15 : decode cX5_suns 15 = .ok (.iconst 0, 1) := by decide +kernel
theorem dX5_suns_16 : decode cX5_suns 16 = .ok (.istore_n 2, 1) := by decide +kernel
theorem dX5_suns_17 : decode cX5_suns 17 = .ok (.iconst 0, 1) := by decide +kernel
theorem dX5_suns_18 : decode cX5_suns 18 = .ok (.istore_n 3, 1) := by decide +kernel
theorem dX5_suns_19 : decode cX5_suns 19 = .ok (.iload_n 3, 1) := by decide +kernel
theorem dX5_suns_20 : decode cX5_suns 20 = .ok (.bipush 9, 2) := by decide +kernel
theorem dX5_suns_22 : decode cX5_suns 22 = .ok (.if_icmp .gt 31, 3) := by decide +kernel
theorem dX5_suns_25 : decode cX5_suns 25 = .ok (.aload_n 0, 1) := by decide +kernel
theorem dX5_suns_26 : decode cX5_suns 26 = .ok (.iload_n 3, 1) := by decide +kernel
theorem dX5_suns_27 : decode cX5_suns 27 = .ok (.putfield 90, 3) := by decide +kernel
theorem dX5_suns_30 : decode cX5_suns 30 = .ok (.iload_n 2, 1) := by decide +kernel
theorem dX5_suns_31 : decode cX5_suns 31 = .ok (.aload_n 0, 1) := by decide +kernel
theorem dX5_suns_32 : decode cX5_suns 32 = .ok (.invokevirtual 184, 3) := by decide +kernel
theorem dX5_suns_35 : decode cX5_suns 35 = .ok (.ifCond .eq 9, 3) := by decide +kernel
theorem dX5_suns_38 : decode cX5_suns 38 = .ok (.iconst 1, 1) := by decide +kernel
theorem dX5_suns_39 : decode cX5_suns 39 = .ok (.iload_n 3, 1) := by decide +kernel
theorem dX5_suns_40 : decode cX5_suns 40 = .ok (.ishl, 1) := by decide +kernel
theorem dX5_suns_41 : decode cX5_suns 41 = .ok (.goto 4, 3) := by decide +kernel
theorem dX5_suns_44 : decode cX5_suns 44 = .ok (.iconst 0, 1) := by decide +kernel
theorem dX5_suns_45 : decode cX5_suns 45 = .ok (.ior, 1) := by decide +kernel
theorem dX5_suns_46 : decode cX5_suns 46 = .ok (.istore_n 2, 1) := by decide +kernel
theorem dX5_suns_47 : decode cX5_suns 47 = .ok (.iinc 3 1, 3) := by decide +kernel
theorem dX5_suns_50 : decode cX5_suns 50 = .ok (.goto (-31), 3) := by decide +kernel
theorem dX5_suns_53 : decode cX5_suns 53 = .ok (.aload_n 0, 1) := by decide +kernel
theorem dX5_suns_54 : decode cX5_suns 54 = .ok (.iload_n 1, 1) := by decide +kernel
theorem dX5_suns_55 : decode cX5_suns 55 = .ok (.putfield 90, 3) := by decide +kernel
theorem dX5_suns_58 : decode cX5_suns 58 = .ok (.iload_n 2, 1) := by decide +kernel
theorem dX5_suns_59 : decode cX5_suns 59 = .ok (.ireturn, 1) := by decide +kernel
theorem dX5_inLeastTerms_0 : decode cX5_inLeastTerms 0 = .ok (.lload_n 0, 1) := by decide +kernel
theorem dX5_inLeastTerms_1 : decode cX5_inLeastTerms 1 = .ok (.lstore 5, 2) := by decide +kernel
theorem dX5_inLeastTerms_3 : decode cX5_inLeastTerms 3 = .ok (.lload_n 2, 1) := by decide +kernel
theorem dX5_inLeastTerms_4 : decode cX5_inLeastTerms 4 = .ok (.lstore 7, 2) := by decide +kernel
theorem dX5_inLeastTerms_6 : decode cX5_inLeastTerms 6 = .ok (.lload 7, 2) := by decide +kernel
theorem dX5_inLeastTerms_8 : decode cX5_inLeastTerms 8 = .ok (.lconst 0, 1) := by decide +kernel
theorem dX5_inLeastTerms_9 : decode cX5_inLeastTerms 9 = .ok (.lcmp, 1) := by decide +kernel
theorem dX5_inLeastTerms_10 : decode cX5_inLeastTerms 10 = .ok (.ifCond .eq 21, 3) := by decide +kernel
theorem dX5_inLeastTerms_13 : decode cX5_inLeastTerms 13 = .ok (.lload 5, 2) := by decide +kernel
theorem dX5_inLeastTerms_15 : decode cX5_inLeastTerms 15 = .ok (.lload 7, 2) := by decide +kernel
theorem dX5_inLeastTerms_17 : decode cX5_inLeastTerms 17 = .ok (.lrem, 1) := by decide +kernel
theorem dX5_inLeastTerms_18 : decode cX5_inLeastTerms 18 = .ok (.lstore 9, 2) := by decide +kernel
theorem dX5_inLeastTerms_20 : decode cX5_inLeastTerms 20 = .ok (.lload 7, 2) := by decide +kernel
theorem dX5_inLeastTerms_22 : decode cX5_inLeastTerms 22 = .ok (.lstore 5, 2) := by decide +kernel
theorem dX5_inLeastTerms_24 : decode cX5_inLeastTerms 24 = .ok (.lload 9, 2) := by decide +kernel
theorem dX5_inLeastTerms_26 : decode cX5_inLeastTerms 26 = .ok (.lstore 7, 2) := by decide +kernel
theorem dX5_inLeastTerms_28 : decode cX5_inLeastTerms 28 = .ok (.goto (-22), 3) := by decide +kernel
theorem dX5_inLeastTerms_31 : decode cX5_inLeastTerms 31 = .ok (.iload 4, 2) := by decide +kernel
theorem dX5_inLeastTerms_33 : decode cX5_inLeastTerms 33 = .ok (.ifCond .ne 10, 3) := by decide +kernel
theorem dX5_inLeastTerms_36 : decode cX5_inLeastTerms 36 = .ok (.lload_n 0, 1) := by decide +kernel
theorem dX5_inLeastTerms_37 : decode cX5_inLeastTerms 37 = .ok (.lload 5, 2) := by decide +kernel
theorem dX5_inLeastTerms_39 : decode cX5_inLeastTerms 39 = .ok (.ldiv, 1) := by decide +kernel
theorem dX5_inLeastTerms_40 : decode cX5_inLeastTerms 40 = .ok (.goto 7, 3) := by decide +kernel
theorem dX5_inLeastTerms_43 : decode cX5_inLeastTerms 43 = .ok (.lload_n 2, 1) := by decide +kernel
theorem dX5_inLeastTerms_44 : decode cX5_inLeastTerms 44 = .ok (.lload 5, 2) := by decide +kernel
theorem dX5_inLeastTerms_46 : decode cX5_inLeastTerms 46 = .ok (.ldiv, 1) := by decide +kernel
theorem dX5_inLeastTerms_47 : decode cX5_inLeastTerms 47 = .ok (.lreturn, 1) := by decide +kernel
theorem dX5_odds_0 : decode cX5_odds 0 = .ok (.iload_n 1, 1) := by decide +kernel
theorem dX5_odds_1 : decode cX5_odds 1 = .ok (.iconst 0, 1) := by decide +kernel
theorem dX5_odds_2 : decode cX5_odds 2 = .ok (.iconst 1, 1) := by decide +kernel
theorem dX5_odds_3 : decode cX5_odds 3 = .ok (.invokestatic 49, 3) := by decide +kernel
theorem dX5_odds_6 : decode cX5_odds 6 = .ok (.ifCond .eq 10, 3) := by decide +kernel
theorem dX5_odds_9 : decode cX5_odds 9 = .ok (.aload_n 0, 1) := by decide +kernel
theorem dX5_odds_10 : decode cX5_odds 10 = .ok (.getfield 53, 3) := by decide +kernel
theorem dX5_odds_13 : decode cX5_odds 13 = .ok (.ifCond .ne 7, 3) := by decide +kernel
theorem dX5_odds_16 : decode cX5_odds 16 = .ok (.ldc2_w 47, 3) := by decide +kernel
theorem dX5_odds_19 : decode cX5_odds 19 = .ok (.lreturn, 1) := by decide +kernel
theorem dX5_odds_20 : decode cX5_odds 20 = .ok (.aload_n 0, 1) := by decide +kernel
theorem dX5_odds_21 : decode cX5_odds 21 = .ok (.iconst 0, 1) := by decide +kernel
theorem dX5_odds_22 : decode cX5_odds 22 = .ok (.invokevirtual 129, 3) := by decide +kernel
theorem dX5_odds_25 : decode cX5_odds 25 = .ok (.istore_n 2, 1) := by decide +kernel
theorem dX5_odds_26 : decode cX5_odds 26 = .ok (.iconst 0, 1) := by decide +kernel
theorem dX5_odds_27 : decode cX5_odds 27 = .ok (.istore_n 3, 1) := by decide +kernel
theorem dX5_odds_28 : decode cX5_odds 28 = .ok (.iconst 0, 1) := by decide +kernel
theorem dX5_odds_29 : decode cX5_odds 29 = .ok (.istore 4, 2) := by decide +kernel
theorem dX5_odds_31 : decode cX5_odds 31 = .ok (.iconst 0, 1) := by decide +kernel
theorem dX5_odds_32 : decode cX5_odds 32 = .ok (.istore 5, 2) := by decide +kernel
theorem dX5_odds_34 : decode cX5_odds 34 = .ok (.iload 5, 2) := by decide +kernel
theorem dX5_odds_36 : decode cX5_odds 36 = .ok (.iconst 1, 1) := by decide +kernel
theorem dX5_odds_37 : decode cX5_odds 37 = .ok (.aload_n 0, 1) := by decide +kernel
theorem dX5_odds_38 : decode cX5_odds 38 = .ok (.invokevirtual 59, 3) := by decide +kernel
theorem dX5_odds_41 : decode cX5_odds 41 = .ok (.ishl, 1) := by decide +kernel
theorem dX5_odds_42 : decode cX5_odds 42 = .ok (.if_icmp .ge 37, 3) := by decide +kernel
theorem dX5_odds_45 : decode cX5_odds 45 = .ok (.iload 5, 2) := by decide +kernel
theorem dX5_odds_47 : decode cX5_odds 47 = .ok (.iload_n 2, 1) := by decide +kernel
theorem dX5_odds_48 : decode cX5_odds 48 = .ok (.iand, 1) := by decide +kernel
theorem dX5_odds_49 : decode cX5_odds 49 = .ok (.iload_n 2, 1) := by decide +kernel
theorem dX5_odds_50 : decode cX5_odds 50 = .ok (.if_icmp .ne 23, 3) := by decide +kernel
theorem dX5_odds_53 : decode cX5_odds 53 = .ok (.iinc 4 1, 3) := by decide +kernel
theorem dX5_odds_56 : decode cX5_odds 56 = .ok (.iload_n 3, 1) := by decide +kernel
theorem dX5_odds_57 : decode cX5_odds 57 = .ok (.aload_n 0, 1) := by decide +kernel
theorem dX5_odds_58 : decode cX5_odds 58 = .ok (.iload 5, 2) := by decide +kernel
theorem dX5_odds_60 : decode cX5_odds 60 = .ok (.invokevirtual 151, 3) := by decide +kernel
theorem dX5_odds_63 : decode cX5_odds 63 = .ok (.ifCond .eq 7, 3) := by decide +kernel
theorem dX5_odds_66 : decode cX5_odds 66 = .ok (.iconst 1, 1) := by decide +kernel
theorem dX5_odds_67 : decode cX5_odds 67 = .ok (.goto 4, 3) := by decide +kernel
theorem dX5_odds_70 : decode cX5_odds 70 = .ok (.iconst 0, 1) := by decide +kernel
theorem dX5_odds_71 : decode cX5_odds 71 = .ok (.iadd, 1) := by decide +kernel
theorem dX5_odds_72 : decode cX5_odds 72 = .ok (.istore_n 3, 1) := by decide +kernel
theorem dX5_odds_73 : decode cX5_odds 73 = .ok (.iinc 5 1, 3) := by decide +kernel
theorem dX5_odds_76 : decode cX5_odds 76 = .ok (.goto (-42), 3) := by decide +kernel
theorem dX5_odds_79 : decode cX5_odds 79 = .ok (.iload_n 3, 1) := by decide +kernel
theorem dX5_odds_80 : decode cX5_odds 80 = .ok (.i2l, 1) := by decide +kernel
theorem dX5_odds_81 : decode cX5_odds 81 = .ok (.iload 4, 2) := by decide +kernel
theorem dX5_odds_83 : decode cX5_odds 83 = .ok (.i2l, 1) := by decide +kernel
theorem dX5_odds_84 : decode cX5_odds 84 = .ok (.iload_n 1, 1) := by decide +kernel
theorem dX5_odds_85 : decode cX5_odds 85 = .ok (.invokestatic 188, 3) := by decide +kernel
theorem dX5_odds_88 : decode cX5_odds 88 = .ok (.lreturn, 1) := by decide +kernel
theorem dX5_sheet_0 : decode cX5_sheet 0 = .ok (.aload_n 0, 1) := by decide +kernel
theorem dX5_sheet_1 : decode cX5_sheet 1 = .ok (.iconst 0, 1) := by decide +kernel
theorem dX5_sheet_2 : decode cX5_sheet 2 = .ok (.putfield 43, 3) := by decide +kernel
theorem dX5_sheet_5 : decode cX5_sheet 5 = .ok (.iload_n 1, 1) := by decide +kernel
theorem dX5_sheet_6 : decode cX5_sheet 6 = .ok (.invokestatic 66, 3) := by decide +kernel
theorem dX5_sheet_9 : decode cX5_sheet 9 = .ok (.ifCond .ne 5, 3) := by decide +kernel
theorem dX5_sheet_12 : decode cX5_sheet 12 = .ok (.iconst (-1), 1) := by decide +kernel
theorem dX5_sheet_13 : decode cX5_sheet 13 = .ok (.ireturn, 1) := by decide +kernel
theorem dX5_sheet_14 : decode cX5_sheet 14 = .ok (.iload_n 2, 1) := by decide +kernel
theorem dX5_sheet_15 : decode cX5_sheet 15 = .ok (.invokestatic 70, 3) := by decide +kernel
theorem dX5_sheet_18 : decode cX5_sheet 18 = .ok (.ifCond .eq 9, 3) := by decide +kernel
theorem dX5_sheet_21 : decode cX5_sheet 21 = .ok (.iload_n 3, 1) := by decide +kernel
theorem dX5_sheet_22 : decode cX5_sheet 22 = .ok (.bipush 60, 2) := by decide +kernel
theorem dX5_sheet_24 : decode cX5_sheet 24 = .ok (.if_icmp .le 6, 3) := by decide +kernel
theorem dX5_sheet_27 : decode cX5_sheet 27 = .ok (.bipush (-2), 2) := by decide +kernel
theorem dX5_sheet_29 : decode cX5_sheet 29 = .ok (.ireturn, 1) := by decide +kernel
theorem dX5_sheet_30 : decode cX5_sheet 30 = .ok (.iload_n 3, 1) := by decide +kernel
theorem dX5_sheet_31 : decode cX5_sheet 31 = .ok (.ifCond .ge 9, 3) := by decide +kernel
theorem dX5_sheet_34 : decode cX5_sheet 34 = .ok (.aload_n 0, 1) := by decide +kernel
theorem dX5_sheet_35 : decode cX5_sheet 35 = .ok (.iconst 4, 1) := by decide +kernel
theorem dX5_sheet_36 : decode cX5_sheet 36 = .ok (.invokevirtual 77, 3) := by decide +kernel
theorem dX5_sheet_39 : decode cX5_sheet 39 = .ok (.ireturn, 1) := by decide +kernel
theorem dX5_sheet_40 : decode cX5_sheet 40 = .ok (.aload_n 0, 1) := by decide +kernel
theorem dX5_sheet_41 : decode cX5_sheet 41 = .ok (.getfield 9, 3) := by decide +kernel
theorem dX5_sheet_44 : decode cX5_sheet 44 = .ok (.iload_n 1, 1) := by decide +kernel
theorem dX5_sheet_45 : decode cX5_sheet 45 = .ok (.iload_n 2, 1) := by decide +kernel
theorem dX5_sheet_46 : decode cX5_sheet 46 = .ok (.iastore, 1) := by decide +kernel
theorem dX5_sheet_47 : decode cX5_sheet 47 = .ok (.aload_n 0, 1) := by decide +kernel
theorem dX5_sheet_48 : decode cX5_sheet 48 = .ok (.getfield 13, 3) := by decide +kernel
theorem dX5_sheet_51 : decode cX5_sheet 51 = .ok (.iload_n 1, 1) := by decide +kernel
theorem dX5_sheet_52 : decode cX5_sheet 52 = .ok (.iload_n 3, 1) := by decide +kernel
theorem dX5_sheet_53 : decode cX5_sheet 53 = .ok (.iastore, 1) := by decide +kernel
theorem dX5_sheet_54 : decode cX5_sheet 54 = .ok (.iconst 0, 1) := by decide +kernel
theorem dX5_sheet_55 : decode cX5_sheet 55 = .ok (.istore 4, 2) := by decide +kernel
theorem dX5_sheet_57 : decode cX5_sheet 57 = .ok (.iload 4, 2) := by decide +kernel
theorem dX5_sheet_59 : decode cX5_sheet 59 = .ok (.bipush 60, 2) := by decide +kernel
theorem dX5_sheet_61 : decode cX5_sheet 61 = .ok (.if_icmp .ge 22, 3) := by decide +kernel
theorem dX5_sheet_64 : decode cX5_sheet 64 = .ok (.aload_n 0, 1) := by decide +kernel
theorem dX5_sheet_65 : decode cX5_sheet 65 = .ok (.getfield 16, 3) := by decide +kernel
theorem dX5_sheet_68 : decode cX5_sheet 68 = .ok (.bipush 60, 2) := by decide +kernel
theorem dX5_sheet_70 : decode cX5_sheet 70 = .ok (.iload_n 1, 1) := by decide +kernel
theorem dX5_sheet_71 : decode cX5_sheet 71 = .ok (.imul, 1) := by decide +kernel
theorem dX5_sheet_72 : decode cX5_sheet 72 = .ok (.iload 4, 2) := by decide +kernel
theorem dX5_sheet_74 : decode cX5_sheet 74 = .ok (.iadd, 1) := by decide +kernel
theorem dX5_sheet_75 : decode cX5_sheet 75 = .ok (.iconst 0, 1) := by decide +kernel
theorem dX5_sheet_76 : decode cX5_sheet 76 = .ok (.iastore, 1) := by decide +kernel
theorem dX5_sheet_77 : decode cX5_sheet 77 = .ok (.iinc 4 1, 3) := by decide +kernel
theorem dX5_sheet_80 : decode cX5_sheet 80 = .ok (.goto (-23), 3) := by decide +kernel
theorem dX5_sheet_83 : decode cX5_sheet 83 = .ok (.iconst 1, 1) := by decide +kernel
theorem dX5_sheet_84 : decode cX5_sheet 84 = .ok (.ireturn, 1) := by decide +kernel
theorem dX5_lose_0 : decode cX5_lose 0 = .ok (.iload_n 1, 1) := by decide +kernel
theorem dX5_lose_1 : decode cX5_lose 1 = .ok (.invokestatic 66, 3) := by decide +kernel
theorem dX5_lose_4 : decode cX5_lose 4 = .ok (.ifCond .ne 5, 3) := by decide +kernel
theorem dX5_lose_7 : decode cX5_lose 7 = .ok (.iconst (-1), 1) := by decide +kernel
theorem dX5_lose_8 : decode cX5_lose 8 = .ok (.ireturn, 1) := by decide +kernel
theorem dX5_lose_9 : decode cX5_lose 9 = .ok (.aload_n 0, 1) := by decide +kernel
theorem dX5_lose_10 : decode cX5_lose 10 = .ok (.getfield 9, 3) := by decide +kernel
theorem dX5_lose_13 : decode cX5_lose 13 = .ok (.iload_n 1, 1) := by decide +kernel
theorem dX5_lose_14 : decode cX5_lose 14 = .ok (.iaload, 1) := by decide +kernel
theorem dX5_lose_15 : decode cX5_lose 15 = .ok (.bipush (-9), 2) := by decide +kernel
theorem dX5_lose_17 : decode cX5_lose 17 = .ok (.if_icmp .ne 7, 3) := by decide +kernel
theorem dX5_lose_20 : decode cX5_lose 20 = .ok (.iconst 0, 1) := by decide +kernel
theorem dX5_lose_21 : decode cX5_lose 21 = .ok (.goto 4, 3) := by decide +kernel
theorem dX5_lose_24 : decode cX5_lose 24 = .ok (.iconst 1, 1) := by decide +kernel
theorem dX5_lose_25 : decode cX5_lose 25 = .ok (.istore_n 2, 1) := by decide +kernel
theorem dX5_lose_26 : decode cX5_lose 26 = .ok (.aload_n 0, 1) := by decide +kernel
theorem dX5_lose_27 : decode cX5_lose 27 = .ok (.getfield 9, 3) := by decide +kernel
theorem dX5_lose_30 : decode cX5_lose 30 = .ok (.iload_n 1, 1) := by decide +kernel
theorem dX5_lose_31 : decode cX5_lose 31 = .ok (.bipush (-9), 2) := by decide +kernel
theorem dX5_lose_33 : decode cX5_lose 33 = .ok (.iastore, 1) := by decide +kernel
theorem dX5_lose_34 : decode cX5_lose 34 = .ok (.iload_n 2, 1) := by decide +kernel
theorem dX5_lose_35 : decode cX5_lose 35 = .ok (.ireturn, 1) := by decide +kernel
theorem dX5_put_0 : decode cX5_put 0 = .ok (.aload_n 0, 1) := by decide +kernel
theorem dX5_put_1 : decode cX5_put 1 = .ok (.iconst 0, 1) := by decide +kernel
theorem dX5_put_2 : decode cX5_put 2 = .ok (.putfield 43, 3) := by decide +kernel
theorem dX5_put_5 : decode cX5_put 5 = .ok (.iload_n 1, 1) := by decide +kernel
theorem dX5_put_6 : decode cX5_put 6 = .ok (.invokestatic 66, 3) := by decide +kernel
theorem dX5_put_9 : decode cX5_put 9 = .ok (.ifCond .ne 5, 3) := by decide +kernel
theorem dX5_put_12 : decode cX5_put 12 = .ok (.iconst (-1), 1) := by decide +kernel
theorem dX5_put_13 : decode cX5_put 13 = .ok (.ireturn, 1) := by decide +kernel
theorem dX5_put_14 : decode cX5_put 14 = .ok (.aload_n 0, 1) := by decide +kernel
theorem dX5_put_15 : decode cX5_put 15 = .ok (.getfield 9, 3) := by decide +kernel
theorem dX5_put_18 : decode cX5_put 18 = .ok (.iload_n 1, 1) := by decide +kernel
theorem dX5_put_19 : decode cX5_put 19 = .ok (.iaload, 1) := by decide +kernel
theorem dX5_put_20 : decode cX5_put 20 = .ok (.bipush (-9), 2) := by decide +kernel
theorem dX5_put_22 : decode cX5_put 22 = .ok (.if_icmp .ne 9, 3) := by decide +kernel
theorem dX5_put_25 : decode cX5_put 25 = .ok (.aload_n 0, 1) := by decide +kernel
theorem dX5_put_26 : decode cX5_put 26 = .ok (.iconst 1, 1) := by decide +kernel
theorem dX5_put_27 : decode cX5_put 27 = .ok (.invokevirtual 77, 3) := by decide +kernel
theorem dX5_put_30 : decode cX5_put 30 = .ok (.ireturn, 1) := by decide +kernel
theorem dX5_put_31 : decode cX5_put 31 = .ok (.iload_n 2, 1) := by decide +kernel
theorem dX5_put_32 : decode cX5_put 32 = .ok (.iconst 0, 1) := by decide +kernel
theorem dX5_put_33 : decode cX5_put 33 = .ok (.aload_n 0, 1) := by decide +kernel
theorem dX5_put_34 : decode cX5_put 34 = .ok (.getfield 13, 3) := by decide +kernel
theorem dX5_put_37 : decode cX5_put 37 = .ok (.iload_n 1, 1) := by decide +kernel
theorem dX5_put_38 : decode cX5_put 38 = .ok (.iaload, 1) := by decide +kernel
theorem dX5_put_39 : decode cX5_put 39 = .ok (.iconst 1, 1) := by decide +kernel
theorem dX5_put_40 : decode cX5_put 40 = .ok (.isub, 1) := by decide +kernel
theorem dX5_put_41 : decode cX5_put 41 = .ok (.invokestatic 49, 3) := by decide +kernel
theorem dX5_put_44 : decode cX5_put 44 = .ok (.ifCond .ne 9, 3) := by decide +kernel
theorem dX5_put_47 : decode cX5_put 47 = .ok (.aload_n 0, 1) := by decide +kernel
theorem dX5_put_48 : decode cX5_put 48 = .ok (.iconst 3, 1) := by decide +kernel
theorem dX5_put_49 : decode cX5_put 49 = .ok (.invokevirtual 77, 3) := by decide +kernel
theorem dX5_put_52 : decode cX5_put 52 = .ok (.ireturn, 1) := by decide +kernel
theorem dX5_put_53 : decode cX5_put 53 = .ok (.aload_n 0, 1) := by decide +kernel
theorem dX5_put_54 : decode cX5_put 54 = .ok (.getfield 16, 3) := by decide +kernel
theorem dX5_put_57 : decode cX5_put 57 = .ok (.bipush 60, 2) := by decide +kernel
theorem dX5_put_59 : decode cX5_put 59 = .ok (.iload_n 1, 1) := by decide +kernel
theorem dX5_put_60 : decode cX5_put 60 = .ok (.imul, 1) := by decide +kernel
theorem dX5_put_61 : decode cX5_put 61 = .ok (.iload_n 2, 1) := by decide +kernel
theorem dX5_put_62 : decode cX5_put 62 = .ok (.iadd, 1) := by decide +kernel
theorem dX5_put_63 : decode cX5_put 63 = .ok (.aload_n 0, 1) := by decide +kernel
theorem dX5_put_64 : decode cX5_put 64 = .ok (.getfield 9, 3) := by decide +kernel
theorem dX5_put_67 : decode cX5_put 67 = .ok (.iload_n 1, 1) := by decide +kernel
theorem dX5_put_68 : decode cX5_put 68 = .ok (.iaload, 1) := by decide +kernel
theorem dX5_put_69 : decode cX5_put 69 = .ok (.ifCond .ne 8, 3) := by decide +kernel
theorem dX5_put_72 : decode cX5_put 72 = .ok (.iload_n 3, 1) := by decide +kernel
theorem dX5_put_73 : decode cX5_put 73 = .ok (.i2b, 1) := by decide +kernel
theorem dX5_put_74 : decode cX5_put 74 = .ok (.goto 19, 3) := by decide +kernel
theorem dX5_put_77 : decode cX5_put 77 = .ok (.aload_n 0, 1) := by decide +kernel
theorem dX5_put_78 : decode cX5_put 78 = .ok (.getfield 9, 3) := by decide +kernel
theorem dX5_put_81 : decode cX5_put 81 = .ok (.iload_n 1, 1) := by decide +kernel
theorem dX5_put_82 : decode cX5_put 82 = .ok (.iaload, 1) := by decide +kernel
theorem dX5_put_83 : decode cX5_put 83 = .ok (.iconst 1, 1) := by decide +kernel
theorem dX5_put_84 : decode cX5_put 84 = .ok (.if_icmp .ne 8, 3) := by decide +kernel
theorem dX5_put_87 : decode cX5_put 87 = .ok (.iload_n 3, 1) := by decide +kernel
theorem dX5_put_88 : decode cX5_put 88 = .ok (.i2s, 1) := by decide +kernel
theorem dX5_put_89 : decode cX5_put 89 = .ok (.goto 4, 3) := by decide +kernel
theorem dX5_put_92 : decode cX5_put 92 = .ok (.iload_n 3, 1) := by decide +kernel
theorem dX5_put_93 : decode cX5_put 93 = .ok (.iastore, 1) := by decide +kernel
theorem dX5_put_94 : decode cX5_put 94 = .ok (.iconst 1, 1) := by decide +kernel
theorem dX5_put_95 : decode cX5_put 95 = .ok (.ireturn, 1) := by decide +kernel
theorem dX5_cell_0 : decode cX5_cell 0 = .ok (.aload_n 0, 1) := by decide +kernel
theorem dX5_cell_1 : decode cX5_cell 1 = .ok (.iconst 0, 1) := by decide +kernel
theorem dX5_cell_2 : decode cX5_cell 2 = .ok (.putfield 43, 3) := by decide +kernel
theorem dX5_cell_5 : decode cX5_cell 5 = .ok (.iload_n 1, 1) := by decide +kernel
theorem dX5_cell_6 : decode cX5_cell 6 = .ok (.invokestatic 66, 3) := by decide +kernel
theorem dX5_cell_9 : decode cX5_cell 9 = .ok (.ifCond .eq 10, 3) := by decide +kernel
theorem dX5_cell_12 : decode cX5_cell 12 = .ok (.iload_n 3, 1) := by decide +kernel
theorem dX5_cell_13 : decode cX5_cell 13 = .ok (.invokestatic 70, 3) := by decide +kernel
theorem dX5_cell_16 : decode cX5_cell 16 = .ok (.ifCond .ne 7, 3) := by decide +kernel
theorem dX5_cell_19 : decode cX5_cell 19 = .ok (.ldc2_w 47, 3) := by decide +kernel
theorem dX5_cell_22 : decode cX5_cell 22 = .ok (.lreturn, 1) := by decide +kernel
theorem dX5_cell_23 : decode cX5_cell 23 = .ok (.aload_n 0, 1) := by decide +kernel
theorem dX5_cell_24 : decode cX5_cell 24 = .ok (.getfield 9, 3) := by decide +kernel
theorem dX5_cell_27 : decode cX5_cell 27 = .ok (.iload_n 1, 1) := by decide +kernel
theorem dX5_cell_28 : decode cX5_cell 28 = .ok (.iaload, 1) := by decide +kernel
theorem dX5_cell_29 : decode cX5_cell 29 = .ok (.bipush (-9), 2) := by decide +kernel
theorem dX5_cell_31 : decode cX5_cell 31 = .ok (.if_icmp .eq 19, 3) := by decide +kernel
theorem dX5_cell_34 : decode cX5_cell 34 = .ok (.aload_n 0, 1) := by decide +kernel
theorem dX5_cell_35 : decode cX5_cell 35 = .ok (.getfield 9, 3) := by decide +kernel
theorem dX5_cell_38 : decode cX5_cell 38 = .ok (.iload_n 1, 1) := by decide +kernel
theorem dX5_cell_39 : decode cX5_cell 39 = .ok (.iaload, 1) := by decide +kernel
theorem dX5_cell_40 : decode cX5_cell 40 = .ok (.iload_n 3, 1) := by decide +kernel
theorem dX5_cell_41 : decode cX5_cell 41 = .ok (.if_icmp .eq 9, 3) := by decide +kernel
theorem dX5_cell_44 : decode cX5_cell 44 = .ok (.aload_n 0, 1) := by decide +kernel
theorem dX5_cell_45 : decode cX5_cell 45 = .ok (.iconst 2, 1) := by decide +kernel
theorem dX5_cell_46 : decode cX5_cell 46 = .ok (.invokevirtual 192, 3) := by decide +kernel
theorem dX5_cell_49 : decode cX5_cell 49 = .ok (.lreturn, 1) := by decide +kernel
theorem dX5_cell_50 : decode cX5_cell 50 = .ok (.aload_n 0, 1) := by decide +kernel
theorem dX5_cell_51 : decode cX5_cell 51 = .ok (.getfield 9, 3) := by decide +kernel
theorem dX5_cell_54 : decode cX5_cell 54 = .ok (.iload_n 1, 1) := by decide +kernel
theorem dX5_cell_55 : decode cX5_cell 55 = .ok (.iaload, 1) := by decide +kernel
theorem dX5_cell_56 : decode cX5_cell 56 = .ok (.bipush (-9), 2) := by decide +kernel
theorem dX5_cell_58 : decode cX5_cell 58 = .ok (.if_icmp .ne 9, 3) := by decide +kernel
theorem dX5_cell_61 : decode cX5_cell 61 = .ok (.aload_n 0, 1) := by decide +kernel
theorem dX5_cell_62 : decode cX5_cell 62 = .ok (.iconst 1, 1) := by decide +kernel
theorem dX5_cell_63 : decode cX5_cell 63 = .ok (.invokevirtual 192, 3) := by decide +kernel
theorem dX5_cell_66 : decode cX5_cell 66 = .ok (.lreturn, 1) := by decide +kernel
theorem dX5_cell_67 : decode cX5_cell 67 = .ok (.iload_n 2, 1) := by decide +kernel
theorem dX5_cell_68 : decode cX5_cell 68 = .ok (.iconst 0, 1) := by decide +kernel
theorem dX5_cell_69 : decode cX5_cell 69 = .ok (.aload_n 0, 1) := by decide +kernel
theorem dX5_cell_70 : decode cX5_cell 70 = .ok (.getfield 13, 3) := by decide +kernel
theorem dX5_cell_73 : decode cX5_cell 73 = .ok (.iload_n 1, 1) := by decide +kernel
theorem dX5_cell_74 : decode cX5_cell 74 = .ok (.iaload, 1) := by decide +kernel
theorem dX5_cell_75 : decode cX5_cell 75 = .ok (.iconst 1, 1) := by decide +kernel
theorem dX5_cell_76 : decode cX5_cell 76 = .ok (.isub, 1) := by decide +kernel
theorem dX5_cell_77 : decode cX5_cell 77 = .ok (.invokestatic 49, 3) := by decide +kernel
theorem dX5_cell_80 : decode cX5_cell 80 = .ok (.ifCond .ne 9, 3) := by decide +kernel
theorem dX5_cell_83 : decode cX5_cell 83 = .ok (.aload_n 0, 1) := by decide +kernel
theorem dX5_cell_84 : decode cX5_cell 84 = .ok (.iconst 3, 1) := by decide +kernel
theorem dX5_cell_85 : decode cX5_cell 85 = .ok (.invokevirtual 192, 3) := by decide +kernel
theorem dX5_cell_88 : decode cX5_cell 88 = .ok (.lreturn, 1) := by decide +kernel
theorem dX5_cell_89 : decode cX5_cell 89 = .ok (.aload_n 0, 1) := by decide +kernel
theorem dX5_cell_90 : decode cX5_cell 90 = .ok (.getfield 16, 3) := by decide +kernel
theorem dX5_cell_93 : decode cX5_cell 93 = .ok (.bipush 60, 2) := by decide +kernel
theorem dX5_cell_95 : decode cX5_cell 95 = .ok (.iload_n 1, 1) := by decide +kernel
theorem dX5_cell_96 : decode cX5_cell 96 = .ok (.imul, 1) := by decide +kernel
theorem dX5_cell_97 : decode cX5_cell 97 = .ok (.iload_n 2, 1) := by decide +kernel
theorem dX5_cell_98 : decode cX5_cell 98 = .ok (.iadd, 1) := by decide +kernel
theorem dX5_cell_99 : decode cX5_cell 99 = .ok (.iaload, 1) := by decide +kernel
theorem dX5_cell_100 : decode cX5_cell 100 = .ok (.i2l, 1) := by decide +kernel
theorem dX5_cell_101 : decode cX5_cell 101 = .ok (.lreturn, 1) := by decide +kernel
theorem dX5_copy_0 : decode cX5_copy 0 = .ok (.aload_n 0, 1) := by decide +kernel
theorem dX5_copy_1 : decode cX5_copy 1 = .ok (.iconst 0, 1) := by decide +kernel
theorem dX5_copy_2 : decode cX5_copy 2 = .ok (.putfield 43, 3) := by decide +kernel
theorem dX5_copy_5 : decode cX5_copy 5 = .ok (.iload_n 1, 1) := by decide +kernel
theorem dX5_copy_6 : decode cX5_copy 6 = .ok (.invokestatic 66, 3) := by decide +kernel
theorem dX5_copy_9 : decode cX5_copy 9 = .ok (.ifCond .eq 10, 3) := by decide +kernel
theorem dX5_copy_12 : decode cX5_copy 12 = .ok (.iload_n 3, 1) := by decide +kernel
theorem dX5_copy_13 : decode cX5_copy 13 = .ok (.invokestatic 66, 3) := by decide +kernel
theorem dX5_copy_16 : decode cX5_copy 16 = .ok (.ifCond .ne 5, 3) := by decide +kernel
theorem dX5_copy_19 : decode cX5_copy 19 = .ok (.iconst (-1), 1) := by decide +kernel
theorem dX5_copy_20 : decode cX5_copy 20 = .ok (.ireturn, 1) := by decide +kernel
theorem dX5_copy_21 : decode cX5_copy 21 = .ok (.aload_n 0, 1) := by decide +kernel
theorem dX5_copy_22 : decode cX5_copy 22 = .ok (.getfield 9, 3) := by decide +kernel
theorem dX5_copy_25 : decode cX5_copy 25 = .ok (.iload_n 1, 1) := by decide +kernel
theorem dX5_copy_26 : decode cX5_copy 26 = .ok (.iaload, 1) := by decide +kernel
theorem dX5_copy_27 : decode cX5_copy 27 = .ok (.bipush (-9), 2) := by decide +kernel
theorem dX5_copy_29 : decode cX5_copy 29 = .ok (.if_icmp .eq 14, 3) := by decide +kernel
theorem dX5_copy_32 : decode cX5_copy 32 = .ok (.aload_n 0, 1) := by decide +kernel
theorem dX5_copy_33 : decode cX5_copy 33 = .ok (.getfield 9, 3) := by decide +kernel
theorem dX5_copy_36 : decode cX5_copy 36 = .ok (.iload_n 3, 1) := by decide +kernel
theorem dX5_copy_37 : decode cX5_copy 37 = .ok (.iaload, 1) := by decide +kernel
theorem dX5_copy_38 : decode cX5_copy 38 = .ok (.bipush (-9), 2) := by decide +kernel
theorem dX5_copy_40 : decode cX5_copy 40 = .ok (.if_icmp .ne 9, 3) := by decide +kernel
theorem dX5_copy_43 : decode cX5_copy 43 = .ok (.aload_n 0, 1) := by decide +kernel
theorem dX5_copy_44 : decode cX5_copy 44 = .ok (.iconst 1, 1) := by decide +kernel
theorem dX5_copy_45 : decode cX5_copy 45 = .ok (.invokevirtual 77, 3) := by decide +kernel
theorem dX5_copy_48 : decode cX5_copy 48 = .ok (.ireturn, 1) := by decide +kernel
theorem dX5_copy_49 : decode cX5_copy 49 = .ok (.aload_n 0, 1) := by decide +kernel
theorem dX5_copy_50 : decode cX5_copy 50 = .ok (.getfield 9, 3) := by decide +kernel
theorem dX5_copy_53 : decode cX5_copy 53 = .ok (.iload_n 1, 1) := by decide +kernel
theorem dX5_copy_54 : decode cX5_copy 54 = .ok (.iaload, 1) := by decide +kernel
theorem dX5_copy_55 : decode cX5_copy 55 = .ok (.aload_n 0, 1) := by decide +kernel
theorem dX5_copy_56 : decode cX5_copy 56 = .ok (.getfield 9, 3) := by decide +kernel
theorem dX5_copy_59 : decode cX5_copy 59 = .ok (.iload_n 3, 1) := by decide +kernel
theorem dX5_copy_60 : decode cX5_copy 60 = .ok (.iaload, 1) := by decide +kernel
theorem dX5_copy_61 : decode cX5_copy 61 = .ok (.if_icmp .eq 9, 3) := by decide +kernel
theorem dX5_copy_64 : decode cX5_copy 64 = .ok (.aload_n 0, 1) := by decide +kernel
theorem dX5_copy_65 : decode cX5_copy 65 = .ok (.iconst 2, 1) := by decide +kernel
theorem dX5_copy_66 : decode cX5_copy 66 = .ok (.invokevirtual 77, 3) := by decide +kernel
theorem dX5_copy_69 : decode cX5_copy 69 = .ok (.ireturn, 1) := by decide +kernel
theorem dX5_copy_70 : decode cX5_copy 70 = .ok (.iload_n 2, 1) := by decide +kernel
theorem dX5_copy_71 : decode cX5_copy 71 = .ok (.ifCond .lt 38, 3) := by decide +kernel
theorem dX5_copy_74 : decode cX5_copy 74 = .ok (.iload 4, 2) := by decide +kernel
theorem dX5_copy_76 : decode cX5_copy 76 = .ok (.ifCond .lt 33, 3) := by decide +kernel
theorem dX5_copy_79 : decode cX5_copy 79 = .ok (.iload 5, 2) := by decide +kernel
theorem dX5_copy_81 : decode cX5_copy 81 = .ok (.ifCond .lt 28, 3) := by decide +kernel
theorem dX5_copy_84 : decode cX5_copy 84 = .ok (.iload_n 2, 1) := by decide +kernel
theorem dX5_copy_85 : decode cX5_copy 85 = .ok (.aload_n 0, 1) := by decide +kernel
theorem dX5_copy_86 : decode cX5_copy 86 = .ok (.getfield 13, 3) := by decide +kernel
theorem dX5_copy_89 : decode cX5_copy 89 = .ok (.iload_n 1, 1) := by decide +kernel
theorem dX5_copy_90 : decode cX5_copy 90 = .ok (.iaload, 1) := by decide +kernel
theorem dX5_copy_91 : decode cX5_copy 91 = .ok (.if_icmp .gt 18, 3) := by decide +kernel
theorem dX5_copy_94 : decode cX5_copy 94 = .ok (.iload 4, 2) := by decide +kernel
theorem dX5_copy_96 : decode cX5_copy 96 = .ok (.aload_n 0, 1) := by decide +kernel
theorem dX5_copy_97 : decode cX5_copy 97 = .ok (.getfield 13, 3) := by decide +kernel
theorem dX5_copy_100 : decode cX5_copy 100 = .ok (.iload_n 3, 1) := by decide +kernel
theorem dX5_copy_101 : decode cX5_copy 101 = .ok (.iaload, 1) := by decide +kernel
theorem dX5_copy_102 : decode cX5_copy 102 = .ok (.if_icmp .gt 7, 3) := by decide +kernel
theorem dX5_copy_105 : decode cX5_copy 105 = .ok (.iconst 1, 1) := by decide +kernel
theorem dX5_copy_106 : decode cX5_copy 106 = .ok (.goto 4, 3) := by decide +kernel
theorem dX5_copy_109 : decode cX5_copy 109 = .ok (.iconst 0, 1) := by decide +kernel
theorem dX5_copy_110 : decode cX5_copy 110 = .ok (.istore 6, 2) := by decide +kernel
theorem dX5_copy_112 : decode cX5_copy 112 = .ok (.iload 6, 2) := by decide +kernel
theorem dX5_copy_114 : decode cX5_copy 114 = .ok (.ifCond .eq 30, 3) := by decide +kernel
theorem dX5_copy_117 : decode cX5_copy 117 = .ok (.iload 5, 2) := by decide +kernel
theorem dX5_copy_119 : decode cX5_copy 119 = .ok (.aload_n 0, 1) := by decide +kernel
theorem dX5_copy_120 : decode cX5_copy 120 = .ok (.getfield 13, 3) := by decide +kernel
theorem dX5_copy_123 : decode cX5_copy 123 = .ok (.iload_n 1, 1) := by decide +kernel
theorem dX5_copy_124 : decode cX5_copy 124 = .ok (.iaload, 1) := by decide +kernel
theorem dX5_copy_125 : decode cX5_copy 125 = .ok (.iload_n 2, 1) := by decide +kernel
theorem dX5_copy_126 : decode cX5_copy 126 = .ok (.isub, 1) := by decide +kernel
theorem dX5_copy_127 : decode cX5_copy 127 = .ok (.if_icmp .gt 17, 3) := by decide +kernel
theorem dX5_copy_130 : decode cX5_copy 130 = .ok (.iload 5, 2) := by decide +kernel
theorem dX5_copy_132 : decode cX5_copy 132 = .ok (.aload_n 0, 1) := by decide +kernel
theorem dX5_copy_133 : decode cX5_copy 133 = .ok (.getfield 13, 3) := by decide +kernel
theorem dX5_copy_136 : decode cX5_copy 136 = .ok (.iload_n 3, 1) := by decide +kernel
theorem dX5_copy_137 : decode cX5_copy 137 = .ok (.iaload, 1) := by decide +kernel
theorem dX5_copy_138 : decode cX5_copy 138 = .ok (.iload 4, 2) := by decide +kernel
theorem dX5_copy_140 : decode cX5_copy 140 = .ok (.isub, 1) := by decide +kernel
theorem dX5_copy_141 : decode cX5_copy 141 = .ok (.if_icmp .le 9, 3) := by decide +kernel
theorem dX5_copy_144 : decode cX5_copy 144 = .ok (.aload_n 0, 1) := by decide +kernel
theorem dX5_copy_145 : decode cX5_copy 145 = .ok (.iconst 3, 1) := by decide +kernel
theorem dX5_copy_146 : decode cX5_copy 146 = .ok (.invokevirtual 77, 3) := by decide +kernel
theorem dX5_copy_149 : decode cX5_copy 149 = .ok (.ireturn, 1) := by decide +kernel
theorem dX5_copy_150 : decode cX5_copy 150 = .ok (.iload_n 2, 1) := by decide +kernel
theorem dX5_copy_151 : decode cX5_copy 151 = .ok (.iload 4, 2) := by decide +kernel
theorem dX5_copy_153 : decode cX5_copy 153 = .ok (.if_icmp .ge 7, 3) := by decide +kernel
theorem dX5_copy_156 : decode cX5_copy 156 = .ok (.iconst 1, 1) := by decide +kernel
theorem dX5_copy_157 : decode cX5_copy 157 = .ok (.goto 4, 3) := by decide +kernel
theorem dX5_copy_160 : decode cX5_copy 160 = .ok (.iconst 0, 1) := by decide +kernel
theorem dX5_copy_161 : decode cX5_copy 161 = .ok (.istore 7, 2) := by decide +kernel
theorem dX5_copy_163 : decode cX5_copy 163 = .ok (.iconst 0, 1) := by decide +kernel
theorem dX5_copy_164 : decode cX5_copy 164 = .ok (.istore 8, 2) := by decide +kernel
theorem dX5_copy_166 : decode cX5_copy 166 = .ok (.iload 8, 2) := by decide +kernel
theorem dX5_copy_168 : decode cX5_copy 168 = .ok (.iload 5, 2) := by decide +kernel
theorem dX5_copy_170 : decode cX5_copy 170 = .ok (.if_icmp .ge 57, 3) := by decide +kernel
theorem dX5_copy_173 : decode cX5_copy 173 = .ok (.iload 7, 2) := by decide +kernel
theorem dX5_copy_175 : decode cX5_copy 175 = .ok (.ifCond .eq 13, 3) := by decide +kernel
theorem dX5_copy_178 : decode cX5_copy 178 = .ok (.iload 5, 2) := by decide +kernel
theorem dX5_copy_180 : decode cX5_copy 180 = .ok (.iconst 1, 1) := by decide +kernel
theorem dX5_copy_181 : decode cX5_copy 181 = .ok (.isub, 1) := by decide +kernel
theorem dX5_copy_182 : decode cX5_copy 182 = .ok (.iload 8, 2) := by decide +kernel
theorem dX5_copy_184 : decode cX5_copy 184 = .ok (.isub, 1) := by decide +kernel
theorem dX5_copy_185 : decode cX5_copy 185 = .ok (.goto 5, 3) := by decide +kernel
theorem dX5_copy_188 : decode cX5_copy 188 = .ok (.iload 8, 2) := by decide +kernel
theorem dX5_copy_190 : decode cX5_copy 190 = .ok (.istore 9, 2) := by decide +kernel
theorem dX5_copy_192 : decode cX5_copy 192 = .ok (.aload_n 0, 1) := by decide +kernel
theorem dX5_copy_193 : decode cX5_copy 193 = .ok (.getfield 16, 3) := by decide +kernel
theorem dX5_copy_196 : decode cX5_copy 196 = .ok (.bipush 60, 2) := by decide +kernel
theorem dX5_copy_198 : decode cX5_copy 198 = .ok (.iload_n 3, 1) := by decide +kernel
theorem dX5_copy_199 : decode cX5_copy 199 = .ok (.imul, 1) := by decide +kernel
theorem dX5_copy_200 : decode cX5_copy 200 = .ok (.iload 4, 2) := by decide +kernel
theorem dX5_copy_202 : decode cX5_copy 202 = .ok (.iadd, 1) := by decide +kernel
theorem dX5_copy_203 : decode cX5_copy 203 = .ok (.iload 9, 2) := by decide +kernel
theorem dX5_copy_205 : decode cX5_copy 205 = .ok (.iadd, 1) := by decide +kernel
theorem dX5_copy_206 : decode cX5_copy 206 = .ok (.aload_n 0, 1) := by decide +kernel
theorem dX5_copy_207 : decode cX5_copy 207 = .ok (.getfield 16, 3) := by decide +kernel
theorem dX5_copy_210 : decode cX5_copy 210 = .ok (.bipush 60, 2) := by decide +kernel
theorem dX5_copy_212 : decode cX5_copy 212 = .ok (.iload_n 1, 1) := by decide +kernel
theorem dX5_copy_213 : decode cX5_copy 213 = .ok (.imul, 1) := by decide +kernel
theorem dX5_copy_214 : decode cX5_copy 214 = .ok (.iload_n 2, 1) := by decide +kernel
theorem dX5_copy_215 : decode cX5_copy 215 = .ok (.iadd, 1) := by decide +kernel
theorem dX5_copy_216 : decode cX5_copy 216 = .ok (.iload 9, 2) := by decide +kernel
theorem dX5_copy_218 : decode cX5_copy 218 = .ok (.iadd, 1) := by decide +kernel
theorem dX5_copy_219 : decode cX5_copy 219 = .ok (.iaload, 1) := by decide +kernel
theorem dX5_copy_220 : decode cX5_copy 220 = .ok (.iastore, 1) := by decide +kernel
theorem dX5_copy_221 : decode cX5_copy 221 = .ok (.iinc 8 1, 3) := by decide +kernel
theorem dX5_copy_224 : decode cX5_copy 224 = .ok (.goto (-58), 3) := by decide +kernel
theorem dX5_copy_227 : decode cX5_copy 227 = .ok (.iload 5, 2) := by decide +kernel
theorem dX5_copy_229 : decode cX5_copy 229 = .ok (.ireturn, 1) := by decide +kernel
theorem dX5_begins_0 : decode cX5_begins 0 = .ok (.aload_n 0, 1) := by decide +kernel
theorem dX5_begins_1 : decode cX5_begins 1 = .ok (.bipush 31, 2) := by decide +kernel
theorem dX5_begins_3 : decode cX5_begins 3 = .ok (.aload_n 0, 1) := by decide +kernel
theorem dX5_begins_4 : decode cX5_begins 4 = .ok (.getfield 196, 3) := by decide +kernel
theorem dX5_begins_7 : decode cX5_begins 7 = .ok (.imul, 1) := by decide +kernel
theorem dX5_begins_8 : decode cX5_begins 8 = .ok (.iload_n 1, 1) := by decide +kernel
theorem dX5_begins_9 : decode cX5_begins 9 = .ok (.iadd, 1) := by decide +kernel
theorem dX5_begins_10 : decode cX5_begins 10 = .ok (.putfield 196, 3) := by decide +kernel
theorem dX5_begins_13 : decode cX5_begins 13 = .ok (.return_, 1) := by decide +kernel
theorem dX5_tell_0 : decode cX5_tell 0 = .ok (.aload_n 0, 1) := by decide +kernel
theorem dX5_tell_1 : decode cX5_tell 1 = .ok (.iload_n 1, 1) := by decide +kernel
theorem dX5_tell_2 : decode cX5_tell 2 = .ok (.invokevirtual 132, 3) := by decide +kernel
theorem dX5_tell_5 : decode cX5_tell 5 = .ok (.ifCond .ne 5, 3) := by decide +kernel
theorem dX5_tell_8 : decode cX5_tell 8 = .ok (.iconst (-1), 1) := by decide +kernel
theorem dX5_tell_9 : decode cX5_tell 9 = .ok (.ireturn, 1) := by decide +kernel
theorem dX5_tell_10 : decode cX5_tell 10 = .ok (.aload_n 0, 1) := by decide +kernel
theorem dX5_tell_11 : decode cX5_tell 11 = .ok (.getfield 22, 3) := by decide +kernel
theorem dX5_tell_14 : decode cX5_tell 14 = .ok (.iload_n 1, 1) := by decide +kernel
theorem dX5_tell_15 : decode cX5_tell 15 = .ok (.iaload, 1) := by decide +kernel
theorem dX5_tell_16 : decode cX5_tell 16 = .ok (.istore_n 2, 1) := by decide +kernel
theorem dX5_tell_17 : decode cX5_tell 17 = .ok (.aload_n 0, 1) := by decide +kernel
theorem dX5_tell_18 : decode cX5_tell 18 = .ok (.getfield 19, 3) := by decide +kernel
theorem dX5_tell_21 : decode cX5_tell 21 = .ok (.iload_n 1, 1) := by decide +kernel
theorem dX5_tell_22 : decode cX5_tell 22 = .ok (.iaload, 1) := by decide +kernel
theorem dX5_tell_23 : decode cX5_tell 23 = .ok (.lookupswitch 67 #[(1, 25), (2, 40)], 25) := by decide +kernel
theorem dX5_tell_48 : decode cX5_tell 48 = .ok (.aload_n 0, 1) := by decide +kernel
theorem dX5_tell_49 : decode cX5_tell 49 = .ok (.iconst 2, 1) := by decide +kernel
theorem dX5_tell_50 : decode cX5_tell 50 = .ok (.invokevirtual 199, 3) := by decide +kernel
theorem dX5_tell_53 : decode cX5_tell 53 = .ok (.aload_n 0, 1) := by decide +kernel
theorem dX5_tell_54 : decode cX5_tell 54 = .ok (.iconst 1, 1) := by decide +kernel
theorem dX5_tell_55 : decode cX5_tell 55 = .ok (.invokevirtual 199, 3) := by decide +kernel
theorem dX5_tell_58 : decode cX5_tell 58 = .ok (.iload_n 2, 1) := by decide +kernel
theorem dX5_tell_59 : decode cX5_tell 59 = .ok (.bipush 100, 2) := by decide +kernel
theorem dX5_tell_61 : decode cX5_tell 61 = .ok (.iadd, 1) := by decide +kernel
theorem dX5_tell_62 : decode cX5_tell 62 = .ok (.ireturn, 1) := by decide +kernel
theorem dX5_tell_63 : decode cX5_tell 63 = .ok (.aload_n 0, 1) := by decide +kernel
theorem dX5_tell_64 : decode cX5_tell 64 = .ok (.iconst 3, 1) := by decide +kernel
theorem dX5_tell_65 : decode cX5_tell 65 = .ok (.invokevirtual 199, 3) := by decide +kernel
theorem dX5_tell_68 : decode cX5_tell 68 = .ok (.aload_n 0, 1) := by decide +kernel
theorem dX5_tell_69 : decode cX5_tell 69 = .ok (.iconst 2, 1) := by decide +kernel
theorem dX5_tell_70 : decode cX5_tell 70 = .ok (.invokevirtual 199, 3) := by decide +kernel
theorem dX5_tell_73 : decode cX5_tell 73 = .ok (.aload_n 0, 1) := by decide +kernel
theorem dX5_tell_74 : decode cX5_tell 74 = .ok (.iconst 1, 1) := by decide +kernel
theorem dX5_tell_75 : decode cX5_tell 75 = .ok (.invokevirtual 199, 3) := by decide +kernel
theorem dX5_tell_78 : decode cX5_tell 78 = .ok (.aload_n 0, 1) := by decide +kernel
theorem dX5_tell_79 : decode cX5_tell 79 = .ok (.iconst 1, 1) := by decide +kernel
theorem dX5_tell_80 : decode cX5_tell 80 = .ok (.invokevirtual 199, 3) := by decide +kernel
theorem dX5_tell_83 : decode cX5_tell 83 = .ok (.iconst 2, 1) := by decide +kernel
theorem dX5_tell_84 : decode cX5_tell 84 = .ok (.iload_n 2, 1) := by decide +kernel
theorem dX5_tell_85 : decode cX5_tell 85 = .ok (.imul, 1) := by decide +kernel
theorem dX5_tell_86 : decode cX5_tell 86 = .ok (.bipush 100, 2) := by decide +kernel
theorem dX5_tell_88 : decode cX5_tell 88 = .ok (.iadd, 1) := by decide +kernel
theorem dX5_tell_89 : decode cX5_tell 89 = .ok (.ireturn, 1) := by decide +kernel
theorem dX5_tell_90 : decode cX5_tell 90 = .ok (.aload_n 0, 1) := by decide +kernel
theorem dX5_tell_91 : decode cX5_tell 91 = .ok (.iconst 1, 1) := by decide +kernel
theorem dX5_tell_92 : decode cX5_tell 92 = .ok (.invokevirtual 199, 3) := by decide +kernel
theorem dX5_tell_95 : decode cX5_tell 95 = .ok (.iload_n 2, 1) := by decide +kernel
theorem dX5_tell_96 : decode cX5_tell 96 = .ok (.ireturn, 1) := by decide +kernel
theorem dX5_draw_0 : decode cX5_draw 0 = .ok (.aload_n 0, 1) := by decide +kernel
theorem dX5_draw_1 : decode cX5_draw 1 = .ok (.iload_n 1, 1) := by decide +kernel
theorem dX5_draw_2 : decode cX5_draw 2 = .ok (.invokevirtual 132, 3) := by decide +kernel
theorem dX5_draw_5 : decode cX5_draw 5 = .ok (.ifCond .ne 5, 3) := by decide +kernel
theorem dX5_draw_8 : decode cX5_draw 8 = .ok (.iconst (-1), 1) := by decide +kernel
theorem dX5_draw_9 : decode cX5_draw 9 = .ok (.ireturn, 1) := by decide +kernel
theorem dX5_draw_10 : decode cX5_draw 10 = .ok (.aload_n 0, 1) := by decide +kernel
theorem dX5_draw_11 : decode cX5_draw 11 = .ok (.aload_n 0, 1) := by decide +kernel
theorem dX5_draw_12 : decode cX5_draw 12 = .ok (.getfield 19, 3) := by decide +kernel
theorem dX5_draw_15 : decode cX5_draw 15 = .ok (.iload_n 1, 1) := by decide +kernel
theorem dX5_draw_16 : decode cX5_draw 16 = .ok (.iaload, 1) := by decide +kernel
theorem dX5_draw_17 : decode cX5_draw 17 = .ok (.iconst 2, 1) := by decide +kernel
theorem dX5_draw_18 : decode cX5_draw 18 = .ok (.if_icmp .ne 7, 3) := by decide +kernel
theorem dX5_draw_21 : decode cX5_draw 21 = .ok (.iconst 5, 1) := by decide +kernel
theorem dX5_draw_22 : decode cX5_draw 22 = .ok (.goto 4, 3) := by decide +kernel
theorem dX5_draw_25 : decode cX5_draw 25 = .ok (.iconst 4, 1) := by decide +kernel
theorem dX5_draw_26 : decode cX5_draw 26 = .ok (.invokevirtual 199, 3) := by decide +kernel
theorem dX5_draw_29 : decode cX5_draw 29 = .ok (.aload_n 0, 1) := by decide +kernel
theorem dX5_draw_30 : decode cX5_draw 30 = .ok (.getfield 19, 3) := by decide +kernel
theorem dX5_draw_33 : decode cX5_draw 33 = .ok (.iload_n 1, 1) := by decide +kernel
theorem dX5_draw_34 : decode cX5_draw 34 = .ok (.iaload, 1) := by decide +kernel
theorem dX5_draw_35 : decode cX5_draw 35 = .ok (.iconst 2, 1) := by decide +kernel
theorem dX5_draw_36 : decode cX5_draw 36 = .ok (.if_icmp .ne 8, 3) := by decide +kernel
theorem dX5_draw_39 : decode cX5_draw 39 = .ok (.bipush 80, 2) := by decide +kernel
theorem dX5_draw_41 : decode cX5_draw 41 = .ok (.goto 4, 3) := by decide +kernel
theorem dX5_draw_44 : decode cX5_draw 44 = .ok (.iload_n 1, 1) := by decide +kernel
theorem dX5_draw_45 : decode cX5_draw 45 = .ok (.ireturn, 1) := by decide +kernel
theorem dX5_as_0 : decode cX5_as 0 = .ok (.aload_n 0, 1) := by decide +kernel
theorem dX5_as_1 : decode cX5_as 1 = .ok (.iconst 0, 1) := by decide +kernel
theorem dX5_as_2 : decode cX5_as 2 = .ok (.putfield 43, 3) := by decide +kernel
theorem dX5_as_5 : decode cX5_as 5 = .ok (.aload_n 0, 1) := by decide +kernel
theorem dX5_as_6 : decode cX5_as 6 = .ok (.iload_n 1, 1) := by decide +kernel
theorem dX5_as_7 : decode cX5_as 7 = .ok (.invokevirtual 132, 3) := by decide +kernel
theorem dX5_as_10 : decode cX5_as 10 = .ok (.ifCond .ne 5, 3) := by decide +kernel
theorem dX5_as_13 : decode cX5_as 13 = .ok (.iconst (-1), 1) := by decide +kernel
theorem dX5_as_14 : decode cX5_as 14 = .ok (.ireturn, 1) := by decide +kernel
theorem dX5_as_15 : decode cX5_as 15 = .ok (.iload_n 2, 1) := by decide +kernel
theorem dX5_as_16 : decode cX5_as 16 = .ok (.iconst 0, 1) := by decide +kernel
theorem dX5_as_17 : decode cX5_as 17 = .ok (.iconst 2, 1) := by decide +kernel
theorem dX5_as_18 : decode cX5_as 18 = .ok (.invokestatic 49, 3) := by decide +kernel
theorem dX5_as_21 : decode cX5_as 21 = .ok (.ifCond .ne 6, 3) := by decide +kernel
theorem dX5_as_24 : decode cX5_as 24 = .ok (.bipush (-2), 2) := by decide +kernel
theorem dX5_as_26 : decode cX5_as 26 = .ok (.ireturn, 1) := by decide +kernel
theorem dX5_as_27 : decode cX5_as 27 = .ok (.aload_n 0, 1) := by decide +kernel
theorem dX5_as_28 : decode cX5_as 28 = .ok (.getfield 19, 3) := by decide +kernel
theorem dX5_as_31 : decode cX5_as 31 = .ok (.iload_n 1, 1) := by decide +kernel
theorem dX5_as_32 : decode cX5_as 32 = .ok (.iaload, 1) := by decide +kernel
theorem dX5_as_33 : decode cX5_as 33 = .ok (.iload_n 2, 1) := by decide +kernel
theorem dX5_as_34 : decode cX5_as 34 = .ok (.if_icmp .lt 7, 3) := by decide +kernel
theorem dX5_as_37 : decode cX5_as 37 = .ok (.iconst 1, 1) := by decide +kernel
theorem dX5_as_38 : decode cX5_as 38 = .ok (.goto 8, 3) := by decide +kernel
theorem dX5_as_41 : decode cX5_as 41 = .ok (.aload_n 0, 1) := by decide +kernel
theorem dX5_as_42 : decode cX5_as 42 = .ok (.iconst 2, 1) := by decide +kernel
theorem dX5_as_43 : decode cX5_as 43 = .ok (.invokevirtual 77, 3) := by decide +kernel
theorem dX5_as_46 : decode cX5_as 46 = .ok (.ireturn, 1) := by decide +kernel
theorem dX5_trace_0 : decode cX5_trace 0 = .ok (.aload_n 0, 1) := by decide +kernel
theorem dX5_trace_1 : decode cX5_trace 1 = .ok (.getfield 196, 3) := by decide +kernel
theorem dX5_trace_4 : decode cX5_trace 4 = .ok (.ireturn, 1) := by decide +kernel
theorem dX5_fault_0 : decode cX5_fault 0 = .ok (.aload_n 0, 1) := by decide +kernel
theorem dX5_fault_1 : decode cX5_fault 1 = .ok (.getfield 43, 3) := by decide +kernel
theorem dX5_fault_4 : decode cX5_fault 4 = .ok (.ireturn, 1) := by decide +kernel
theorem dX5_many_0 : decode cX5_many 0 = .ok (.iload_n 1, 1) := by decide +kernel
theorem dX5_many_1 : decode cX5_many 1 = .ok (.tableswitch 73 0 5 #[39, 44, 49, 54, 59, 68], 39) := by decide +kernel
theorem dX5_many_40 : decode cX5_many 40 = .ok (.aload_n 0, 1) := by decide +kernel
theorem dX5_many_41 : decode cX5_many 41 = .ok (.getfield 53, 3) := by decide +kernel
theorem dX5_many_44 : decode cX5_many 44 = .ok (.ireturn, 1) := by decide +kernel
theorem dX5_many_45 : decode cX5_many 45 = .ok (.aload_n 0, 1) := by decide +kernel
theorem dX5_many_46 : decode cX5_many 46 = .ok (.getfield 56, 3) := by decide +kernel
theorem dX5_many_49 : decode cX5_many 49 = .ok (.ireturn, 1) := by decide +kernel
theorem dX5_many_50 : decode cX5_many 50 = .ok (.aload_n 0, 1) := by decide +kernel
theorem dX5_many_51 : decode cX5_many 51 = .ok (.getfield 90, 3) := by decide +kernel
theorem dX5_many_54 : decode cX5_many 54 = .ok (.ireturn, 1) := by decide +kernel
theorem dX5_many_55 : decode cX5_many 55 = .ok (.aload_n 0, 1) := by decide +kernel
theorem dX5_many_56 : decode cX5_many 56 = .ok (.getfield 99, 3) := by decide +kernel
theorem dX5_many_59 : decode cX5_many 59 = .ok (.ireturn, 1) := by decide +kernel
theorem dX5_many_60 : decode cX5_many 60 = .ok (.aload_n 0, 1) := by decide +kernel
theorem dX5_many_61 : decode cX5_many 61 = .ok (.iconst 0, 1) := by decide +kernel
theorem dX5_many_62 : decode cX5_many 62 = .ok (.invokevirtual 129, 3) := by decide +kernel
theorem dX5_many_65 : decode cX5_many 65 = .ok (.invokestatic 138, 3) := by decide +kernel
theorem dX5_many_68 : decode cX5_many 68 = .ok (.ireturn, 1) := by decide +kernel
theorem dX5_many_69 : decode cX5_many 69 = .ok (.aload_n 0, 1) := by decide +kernel
theorem dX5_many_70 : decode cX5_many 70 = .ok (.getfield 102, 3) := by decide +kernel
theorem dX5_many_73 : decode cX5_many 73 = .ok (.ireturn, 1) := by decide +kernel
theorem dX5_many_74 : decode cX5_many 74 = .ok (.bipush (-2), 2) := by decide +kernel
theorem dX5_many_76 : decode cX5_many 76 = .ok (.ireturn, 1) := by decide +kernel
