theorem dX8_spotOf_17 : decode cX8_spotOf 17 = .ok (.iload_n 2, 1) := by decide +kernel
theorem dX8_spotOf_18 : decode cX8_spotOf 18 = .ok (.iaload, 1) := by decide +kernel
theorem dX8_spotOf_19 : decode cX8_spotOf 19 = .ok (.if_icmp .ge 31, 3) := by decide +kernel
theorem dX8_spotOf_22 : decode cX8_spotOf 22 = .ok (.aload_n 0, 1) := by decide +kernel
theorem dX8_spotOf_23 : decode cX8_spotOf 23 = .ok (.getfield 53, 3) := by decide +kernel
theorem dX8_spotOf_26 : decode cX8_spotOf 26 = .ok (.bipush 6, 2) := by decide +kernel
theorem dX8_spotOf_28 : decode cX8_spotOf 28 = .ok (.iload_n 2, 1) := by decide +kernel
theorem dX8_spotOf_29 : decode cX8_spotOf 29 = .ok (.imul, 1) := by decide +kernel
theorem dX8_spotOf_30 : decode cX8_spotOf 30 = .ok (.iload_n 3, 1) := by decide +kernel
theorem dX8_spotOf_31 : decode cX8_spotOf 31 = .ok (.iadd, 1) := by decide +kernel
theorem dX8_spotOf_32 : decode cX8_spotOf 32 = .ok (.iaload, 1) := by decide +kernel
theorem dX8_spotOf_33 : decode cX8_spotOf 33 = .ok (.iload_n 1, 1) := by decide +kernel
theorem dX8_spotOf_34 : decode cX8_spotOf 34 = .ok (.if_icmp .ne 10, 3) := by decide +kernel
theorem dX8_spotOf_37 : decode cX8_spotOf 37 = .ok (.bipush 6, 2) := by decide +kernel
theorem dX8_spotOf_39 : decode cX8_spotOf 39 = .ok (.iload_n 2, 1) := by decide +kernel
theorem dX8_spotOf_40 : decode cX8_spotOf 40 = .ok (.imul, 1) := by decide +kernel
theorem dX8_spotOf_41 : decode cX8_spotOf 41 = .ok (.iload_n 3, 1) := by decide +kernel
theorem dX8_spotOf_42 : decode cX8_spotOf 42 = .ok (.iadd, 1) := by decide +kernel
theorem dX8_spotOf_43 : decode cX8_spotOf 43 = .ok (.ireturn, 1) := by decide +kernel
theorem dX8_spotOf_44 : decode cX8_spotOf 44 = .ok (.iinc 3 1, 3) := by decide +kernel
theorem dX8_spotOf_47 : decode cX8_spotOf 47 = .ok (.goto (-35), 3) := by decide +kernel
theorem dX8_spotOf_50 : decode cX8_spotOf 50 = .ok (.iinc 2 1, 3) := by decide +kernel
theorem dX8_spotOf_53 : decode cX8_spotOf 53 = .ok (.goto (-51), 3) := by decide +kernel
theorem dX8_spotOf_56 : decode cX8_spotOf 56 = .ok (.iconst (-1), 1) := by decide +kernel
theorem dX8_spotOf_57 : decode cX8_spotOf 57 = .ok (.ireturn, 1) := by decide +kernel
theorem dX8_of_0 : decode cX8_of 0 = .ok (.aload_n 0, 1) := by decide +kernel
theorem dX8_of_1 : decode cX8_of 1 = .ok (.iload_n 1, 1) := by decide +kernel
theorem dX8_of_2 : decode cX8_of 2 = .ok (.invokevirtual 131, 3) := by decide +kernel
theorem dX8_of_5 : decode cX8_of 5 = .ok (.ifCond .ne 10, 3) := by decide +kernel
theorem dX8_of_8 : decode cX8_of 8 = .ok (.aload_n 0, 1) := by decide +kernel
theorem dX8_of_9 : decode cX8_of 9 = .ok (.ldc 125, 2) := by decide +kernel
theorem dX8_of_11 : decode cX8_of 11 = .ok (.invokevirtual 126, 3) := by decide +kernel
theorem dX8_of_14 : decode cX8_of 14 = .ok (.ireturn, 1) := by decide +kernel
theorem dX8_of_15 : decode cX8_of 15 = .ok (.aload_n 0, 1) := by decide +kernel
theorem dX8_of_16 : decode cX8_of 16 = .ok (.iload_n 1, 1) := by decide +kernel
theorem dX8_of_17 : decode cX8_of 17 = .ok (.invokevirtual 146, 3) := by decide +kernel
theorem dX8_of_20 : decode cX8_of 20 = .ok (.istore_n 3, 1) := by decide +kernel
theorem dX8_of_21 : decode cX8_of 21 = .ok (.iload_n 2, 1) := by decide +kernel
theorem dX8_of_22 : decode cX8_of 22 = .ok (.tableswitch 155 0 10 #[58, 65, 72, 79, 94, 101, 108, 115, 128, 141, 148], 58) := by decide +kernel
theorem dX8_of_80 : decode cX8_of 80 = .ok (.aload_n 0, 1) := by decide +kernel
theorem dX8_of_81 : decode cX8_of 81 = .ok (.getfield 22, 3) := by decide +kernel
theorem dX8_of_84 : decode cX8_of 84 = .ok (.iload_n 1, 1) := by decide +kernel
theorem dX8_of_85 : decode cX8_of 85 = .ok (.iaload, 1) := by decide +kernel
theorem dX8_of_86 : decode cX8_of 86 = .ok (.ireturn, 1) := by decide +kernel
theorem dX8_of_87 : decode cX8_of 87 = .ok (.aload_n 0, 1) := by decide +kernel
theorem dX8_of_88 : decode cX8_of 88 = .ok (.getfield 25, 3) := by decide +kernel
theorem dX8_of_91 : decode cX8_of 91 = .ok (.iload_n 1, 1) := by decide +kernel
theorem dX8_of_92 : decode cX8_of 92 = .ok (.iaload, 1) := by decide +kernel
theorem dX8_of_93 : decode cX8_of 93 = .ok (.ireturn, 1) := by decide +kernel
theorem dX8_of_94 : decode cX8_of 94 = .ok (.aload_n 0, 1) := by decide +kernel
theorem dX8_of_95 : decode cX8_of 95 = .ok (.getfield 28, 3) := by decide +kernel
theorem dX8_of_98 : decode cX8_of 98 = .ok (.iload_n 1, 1) := by decide +kernel
theorem dX8_of_99 : decode cX8_of 99 = .ok (.iaload, 1) := by decide +kernel
theorem dX8_of_100 : decode cX8_of 100 = .ok (.ireturn, 1) := by decide +kernel
theorem dX8_of_101 : decode cX8_of 101 = .ok (.aload_n 0, 1) := by decide +kernel
theorem dX8_of_102 : decode cX8_of 102 = .ok (.getfield 31, 3) := by decide +kernel
theorem dX8_of_105 : decode cX8_of 105 = .ok (.iload_n 1, 1) := by decide +kernel
theorem dX8_of_106 : decode cX8_of 106 = .ok (.baload, 1) := by decide +kernel
theorem dX8_of_107 : decode cX8_of 107 = .ok (.ifCond .eq 7, 3) := by decide +kernel
theorem dX8_of_110 : decode cX8_of 110 = .ok (.iconst 1, 1) := by decide +kernel
theorem dX8_of_111 : decode cX8_of 111 = .ok (.goto 4, 3) := by decide +kernel
theorem dX8_of_114 : decode cX8_of 114 = .ok (.iconst 0, 1) := by decide +kernel
theorem dX8_of_115 : decode cX8_of 115 = .ok (.ireturn, 1) := by decide +kernel
theorem dX8_of_116 : decode cX8_of 116 = .ok (.aload_n 0, 1) := by decide +kernel
theorem dX8_of_117 : decode cX8_of 117 = .ok (.getfield 35, 3) := by decide +kernel
theorem dX8_of_120 : decode cX8_of 120 = .ok (.iload_n 1, 1) := by decide +kernel
theorem dX8_of_121 : decode cX8_of 121 = .ok (.iaload, 1) := by decide +kernel
theorem dX8_of_122 : decode cX8_of 122 = .ok (.ireturn, 1) := by decide +kernel
theorem dX8_of_123 : decode cX8_of 123 = .ok (.aload_n 0, 1) := by decide +kernel
theorem dX8_of_124 : decode cX8_of 124 = .ok (.getfield 38, 3) := by decide +kernel
theorem dX8_of_127 : decode cX8_of 127 = .ok (.iload_n 1, 1) := by decide +kernel
theorem dX8_of_128 : decode cX8_of 128 = .ok (.iaload, 1) := by decide +kernel
theorem dX8_of_129 : decode cX8_of 129 = .ok (.ireturn, 1) := by decide +kernel
theorem dX8_of_130 : decode cX8_of 130 = .ok (.aload_n 0, 1) := by decide +kernel
theorem dX8_of_131 : decode cX8_of 131 = .ok (.getfield 41, 3) := by decide +kernel
theorem dX8_of_134 : decode cX8_of 134 = .ok (.iload_n 1, 1) := by decide +kernel
theorem dX8_of_135 : decode cX8_of 135 = .ok (.iaload, 1) := by decide +kernel
theorem dX8_of_136 : decode cX8_of 136 = .ok (.ireturn, 1) := by decide +kernel
theorem dX8_of_137 : decode cX8_of 137 = .ok (.iload_n 3, 1) := by decide +kernel
theorem dX8_of_138 : decode cX8_of 138 = .ok (.ifCond .ge 7, 3) := by decide +kernel
theorem dX8_of_141 : decode cX8_of 141 = .ok (.iconst (-1), 1) := by decide +kernel
theorem dX8_of_142 : decode cX8_of 142 = .ok (.goto 7, 3) := by decide +kernel
theorem dX8_of_145 : decode cX8_of 145 = .ok (.iload_n 3, 1) := by decide +kernel
theorem dX8_of_146 : decode cX8_of 146 = .ok (.bipush 6, 2) := by decide +kernel
theorem dX8_of_148 : decode cX8_of 148 = .ok (.idiv, 1) := by decide +kernel
theorem dX8_of_149 : decode cX8_of 149 = .ok (.ireturn, 1) := by decide +kernel
theorem dX8_of_150 : decode cX8_of 150 = .ok (.iload_n 3, 1) := by decide +kernel
theorem dX8_of_151 : decode cX8_of 151 = .ok (.ifCond .ge 7, 3) := by decide +kernel
theorem dX8_of_154 : decode cX8_of 154 = .ok (.iconst (-1), 1) := by decide +kernel
theorem dX8_of_155 : decode cX8_of 155 = .ok (.goto 7, 3) := by decide +kernel
theorem dX8_of_158 : decode cX8_of 158 = .ok (.iload_n 3, 1) := by decide +kernel
theorem dX8_of_159 : decode cX8_of 159 = .ok (.bipush 6, 2) := by decide +kernel
theorem dX8_of_161 : decode cX8_of 161 = .ok (.irem, 1) := by decide +kernel
theorem dX8_of_162 : decode cX8_of 162 = .ok (.ireturn, 1) := by decide +kernel
theorem dX8_of_163 : decode cX8_of 163 = .ok (.aload_n 0, 1) := by decide +kernel
theorem dX8_of_164 : decode cX8_of 164 = .ok (.getfield 44, 3) := by decide +kernel
theorem dX8_of_167 : decode cX8_of 167 = .ok (.iload_n 1, 1) := by decide +kernel
theorem dX8_of_168 : decode cX8_of 168 = .ok (.iaload, 1) := by decide +kernel
theorem dX8_of_169 : decode cX8_of 169 = .ok (.ireturn, 1) := by decide +kernel
theorem dX8_of_170 : decode cX8_of 170 = .ok (.aload_n 0, 1) := by decide +kernel
theorem dX8_of_171 : decode cX8_of 171 = .ok (.getfield 47, 3) := by decide +kernel
theorem dX8_of_174 : decode cX8_of 174 = .ok (.iload_n 1, 1) := by decide +kernel
theorem dX8_of_175 : decode cX8_of 175 = .ok (.iaload, 1) := by decide +kernel
theorem dX8_of_176 : decode cX8_of 176 = .ok (.ireturn, 1) := by decide +kernel
theorem dX8_of_177 : decode cX8_of 177 = .ok (.aload_n 0, 1) := by decide +kernel
theorem dX8_of_178 : decode cX8_of 178 = .ok (.ldc 125, 2) := by decide +kernel
theorem dX8_of_180 : decode cX8_of 180 = .ok (.invokevirtual 126, 3) := by decide +kernel
theorem dX8_of_183 : decode cX8_of 183 = .ok (.ireturn, 1) := by decide +kernel
theorem dX8_at_0 : decode cX8_at 0 = .ok (.aload_n 0, 1) := by decide +kernel
theorem dX8_at_1 : decode cX8_at 1 = .ok (.iload_n 1, 1) := by decide +kernel
theorem dX8_at_2 : decode cX8_at 2 = .ok (.invokevirtual 149, 3) := by decide +kernel
theorem dX8_at_5 : decode cX8_at 5 = .ok (.ifCond .eq 12, 3) := by decide +kernel
theorem dX8_at_8 : decode cX8_at 8 = .ok (.iload_n 2, 1) := by decide +kernel
theorem dX8_at_9 : decode cX8_at 9 = .ok (.iconst 0, 1) := by decide +kernel
theorem dX8_at_10 : decode cX8_at 10 = .ok (.iconst 5, 1) := by decide +kernel
theorem dX8_at_11 : decode cX8_at 11 = .ok (.invokestatic 118, 3) := by decide +kernel
theorem dX8_at_14 : decode cX8_at 14 = .ok (.ifCond .ne 10, 3) := by decide +kernel
theorem dX8_at_17 : decode cX8_at 17 = .ok (.aload_n 0, 1) := by decide +kernel
theorem dX8_at_18 : decode cX8_at 18 = .ok (.ldc 125, 2) := by decide +kernel
theorem dX8_at_20 : decode cX8_at 20 = .ok (.invokevirtual 126, 3) := by decide +kernel
theorem dX8_at_23 : decode cX8_at 23 = .ok (.ireturn, 1) := by decide +kernel
theorem dX8_at_24 : decode cX8_at 24 = .ok (.iload_n 2, 1) := by decide +kernel
theorem dX8_at_25 : decode cX8_at 25 = .ok (.aload_n 0, 1) := by decide +kernel
theorem dX8_at_26 : decode cX8_at 26 = .ok (.getfield 50, 3) := by decide +kernel
theorem dX8_at_29 : decode cX8_at 29 = .ok (.iload_n 1, 1) := by decide +kernel
theorem dX8_at_30 : decode cX8_at 30 = .ok (.iaload, 1) := by decide +kernel
theorem dX8_at_31 : decode cX8_at 31 = .ok (.if_icmp .ge 17, 3) := by decide +kernel
theorem dX8_at_34 : decode cX8_at 34 = .ok (.aload_n 0, 1) := by decide +kernel
theorem dX8_at_35 : decode cX8_at 35 = .ok (.getfield 53, 3) := by decide +kernel
theorem dX8_at_38 : decode cX8_at 38 = .ok (.bipush 6, 2) := by decide +kernel
theorem dX8_at_40 : decode cX8_at 40 = .ok (.iload_n 1, 1) := by decide +kernel
theorem dX8_at_41 : decode cX8_at 41 = .ok (.imul, 1) := by decide +kernel
theorem dX8_at_42 : decode cX8_at 42 = .ok (.iload_n 2, 1) := by decide +kernel
theorem dX8_at_43 : decode cX8_at 43 = .ok (.iadd, 1) := by decide +kernel
theorem dX8_at_44 : decode cX8_at 44 = .ok (.iaload, 1) := by decide +kernel
theorem dX8_at_45 : decode cX8_at 45 = .ok (.goto 4, 3) := by decide +kernel
theorem dX8_at_48 : decode cX8_at 48 = .ok (.iconst (-1), 1) := by decide +kernel
theorem dX8_at_49 : decode cX8_at 49 = .ok (.ireturn, 1) := by decide +kernel
theorem dX8_whyNot_0 : decode cX8_whyNot 0 = .ok (.iload_n 3, 1) := by decide +kernel
theorem dX8_whyNot_1 : decode cX8_whyNot 1 = .ok (.aload_n 0, 1) := by decide +kernel
theorem dX8_whyNot_2 : decode cX8_whyNot 2 = .ok (.getfield 16, 3) := by decide +kernel
theorem dX8_whyNot_5 : decode cX8_whyNot 5 = .ok (.iload_n 2, 1) := by decide +kernel
theorem dX8_whyNot_6 : decode cX8_whyNot 6 = .ok (.iaload, 1) := by decide +kernel
theorem dX8_whyNot_7 : decode cX8_whyNot 7 = .ok (.if_icmp .lt 5, 3) := by decide +kernel
theorem dX8_whyNot_10 : decode cX8_whyNot 10 = .ok (.iconst 1, 1) := by decide +kernel
theorem dX8_whyNot_11 : decode cX8_whyNot 11 = .ok (.ireturn, 1) := by decide +kernel
theorem dX8_whyNot_12 : decode cX8_whyNot 12 = .ok (.aload_n 0, 1) := by decide +kernel
theorem dX8_whyNot_13 : decode cX8_whyNot 13 = .ok (.getfield 28, 3) := by decide +kernel
theorem dX8_whyNot_16 : decode cX8_whyNot 16 = .ok (.iload_n 1, 1) := by decide +kernel
theorem dX8_whyNot_17 : decode cX8_whyNot 17 = .ok (.iaload, 1) := by decide +kernel
theorem dX8_whyNot_18 : decode cX8_whyNot 18 = .ok (.aload_n 0, 1) := by decide +kernel
theorem dX8_whyNot_19 : decode cX8_whyNot 19 = .ok (.getfield 9, 3) := by decide +kernel
theorem dX8_whyNot_22 : decode cX8_whyNot 22 = .ok (.iload_n 2, 1) := by decide +kernel
theorem dX8_whyNot_23 : decode cX8_whyNot 23 = .ok (.iaload, 1) := by decide +kernel
theorem dX8_whyNot_24 : decode cX8_whyNot 24 = .ok (.iload_n 3, 1) := by decide +kernel
theorem dX8_whyNot_25 : decode cX8_whyNot 25 = .ok (.aload_n 0, 1) := by decide +kernel
theorem dX8_whyNot_26 : decode cX8_whyNot 26 = .ok (.getfield 13, 3) := by decide +kernel
theorem dX8_whyNot_29 : decode cX8_whyNot 29 = .ok (.iload_n 2, 1) := by decide +kernel
theorem dX8_whyNot_30 : decode cX8_whyNot 30 = .ok (.iaload, 1) := by decide +kernel
theorem dX8_whyNot_31 : decode cX8_whyNot 31 = .ok (.imul, 1) := by decide +kernel
theorem dX8_whyNot_32 : decode cX8_whyNot 32 = .ok (.iadd, 1) := by decide +kernel
theorem dX8_whyNot_33 : decode cX8_whyNot 33 = .ok (.if_icmp .le 5, 3) := by decide +kernel
theorem dX8_whyNot_36 : decode cX8_whyNot 36 = .ok (.iconst 2, 1) := by decide +kernel
theorem dX8_whyNot_37 : decode cX8_whyNot 37 = .ok (.ireturn, 1) := by decide +kernel
theorem dX8_whyNot_38 : decode cX8_whyNot 38 = .ok (.aload_n 0, 1) := by decide +kernel
theorem dX8_whyNot_39 : decode cX8_whyNot 39 = .ok (.getfield 31, 3) := by decide +kernel
theorem dX8_whyNot_42 : decode cX8_whyNot 42 = .ok (.iload_n 1, 1) := by decide +kernel
theorem dX8_whyNot_43 : decode cX8_whyNot 43 = .ok (.baload, 1) := by decide +kernel
theorem dX8_whyNot_44 : decode cX8_whyNot 44 = .ok (.ifCond .eq 15, 3) := by decide +kernel
theorem dX8_whyNot_47 : decode cX8_whyNot 47 = .ok (.iload_n 3, 1) := by decide +kernel
theorem dX8_whyNot_48 : decode cX8_whyNot 48 = .ok (.aload_n 0, 1) := by decide +kernel
theorem dX8_whyNot_49 : decode cX8_whyNot 49 = .ok (.getfield 19, 3) := by decide +kernel
theorem dX8_whyNot_52 : decode cX8_whyNot 52 = .ok (.iload_n 2, 1) := by decide +kernel
theorem dX8_whyNot_53 : decode cX8_whyNot 53 = .ok (.iaload, 1) := by decide +kernel
theorem dX8_whyNot_54 : decode cX8_whyNot 54 = .ok (.if_icmp .lt 5, 3) := by decide +kernel
theorem dX8_whyNot_57 : decode cX8_whyNot 57 = .ok (.iconst 3, 1) := by decide +kernel
theorem dX8_whyNot_58 : decode cX8_whyNot 58 = .ok (.ireturn, 1) := by decide +kernel
theorem dX8_whyNot_59 : decode cX8_whyNot 59 = .ok (.iload_n 3, 1) := by decide +kernel
theorem dX8_whyNot_60 : decode cX8_whyNot 60 = .ok (.ifCond .ne 5, 3) := by decide +kernel
theorem dX8_whyNot_63 : decode cX8_whyNot 63 = .ok (.iconst 0, 1) := by decide +kernel
theorem dX8_whyNot_64 : decode cX8_whyNot 64 = .ok (.ireturn, 1) := by decide +kernel
theorem dX8_whyNot_65 : decode cX8_whyNot 65 = .ok (.aload_n 0, 1) := by decide +kernel
theorem dX8_whyNot_66 : decode cX8_whyNot 66 = .ok (.getfield 22, 3) := by decide +kernel
theorem dX8_whyNot_69 : decode cX8_whyNot 69 = .ok (.iload 4, 2) := by decide +kernel
theorem dX8_whyNot_71 : decode cX8_whyNot 71 = .ok (.iaload, 1) := by decide +kernel
theorem dX8_whyNot_72 : decode cX8_whyNot 72 = .ok (.iconst 1, 1) := by decide +kernel
theorem dX8_whyNot_73 : decode cX8_whyNot 73 = .ok (.if_icmp .ne 5, 3) := by decide +kernel
theorem dX8_whyNot_76 : decode cX8_whyNot 76 = .ok (.iconst 4, 1) := by decide +kernel
theorem dX8_whyNot_77 : decode cX8_whyNot 77 = .ok (.ireturn, 1) := by decide +kernel
theorem dX8_whyNot_78 : decode cX8_whyNot 78 = .ok (.aload_n 0, 1) := by decide +kernel
theorem dX8_whyNot_79 : decode cX8_whyNot 79 = .ok (.getfield 22, 3) := by decide +kernel
theorem dX8_whyNot_82 : decode cX8_whyNot 82 = .ok (.iload_n 1, 1) := by decide +kernel
theorem dX8_whyNot_83 : decode cX8_whyNot 83 = .ok (.iaload, 1) := by decide +kernel
theorem dX8_whyNot_84 : decode cX8_whyNot 84 = .ok (.iconst 2, 1) := by decide +kernel
theorem dX8_whyNot_85 : decode cX8_whyNot 85 = .ok (.invokestatic 141, 3) := by decide +kernel
theorem dX8_whyNot_88 : decode cX8_whyNot 88 = .ok (.ifCond .eq 21, 3) := by decide +kernel
theorem dX8_whyNot_91 : decode cX8_whyNot 91 = .ok (.aload_n 0, 1) := by decide +kernel
theorem dX8_whyNot_92 : decode cX8_whyNot 92 = .ok (.getfield 22, 3) := by decide +kernel
theorem dX8_whyNot_95 : decode cX8_whyNot 95 = .ok (.iload 4, 2) := by decide +kernel
theorem dX8_whyNot_97 : decode cX8_whyNot 97 = .ok (.iaload, 1) := by decide +kernel
theorem dX8_whyNot_98 : decode cX8_whyNot 98 = .ok (.iconst 2, 1) := by decide +kernel
theorem dX8_whyNot_99 : decode cX8_whyNot 99 = .ok (.invokestatic 141, 3) := by decide +kernel
theorem dX8_whyNot_102 : decode cX8_whyNot 102 = .ok (.ifCond .eq 7, 3) := by decide +kernel
theorem dX8_whyNot_105 : decode cX8_whyNot 105 = .ok (.iconst 1, 1) := by decide +kernel
theorem dX8_whyNot_106 : decode cX8_whyNot 106 = .ok (.goto 4, 3) := by decide +kernel
theorem dX8_whyNot_109 : decode cX8_whyNot 109 = .ok (.iconst 0, 1) := by decide +kernel
theorem dX8_whyNot_110 : decode cX8_whyNot 110 = .ok (.istore 5, 2) := by decide +kernel
theorem dX8_whyNot_112 : decode cX8_whyNot 112 = .ok (.iload 5, 2) := by decide +kernel
theorem dX8_whyNot_114 : decode cX8_whyNot 114 = .ok (.ifCond .ne 26, 3) := by decide +kernel
theorem dX8_whyNot_117 : decode cX8_whyNot 117 = .ok (.aload_n 0, 1) := by decide +kernel
theorem dX8_whyNot_118 : decode cX8_whyNot 118 = .ok (.getfield 25, 3) := by decide +kernel
theorem dX8_whyNot_121 : decode cX8_whyNot 121 = .ok (.iload_n 1, 1) := by decide +kernel
theorem dX8_whyNot_122 : decode cX8_whyNot 122 = .ok (.iaload, 1) := by decide +kernel
theorem dX8_whyNot_123 : decode cX8_whyNot 123 = .ok (.aload_n 0, 1) := by decide +kernel
theorem dX8_whyNot_124 : decode cX8_whyNot 124 = .ok (.getfield 25, 3) := by decide +kernel
theorem dX8_whyNot_127 : decode cX8_whyNot 127 = .ok (.iload 4, 2) := by decide +kernel
theorem dX8_whyNot_129 : decode cX8_whyNot 129 = .ok (.iaload, 1) := by decide +kernel
theorem dX8_whyNot_130 : decode cX8_whyNot 130 = .ok (.aload_n 0, 1) := by decide +kernel
theorem dX8_whyNot_131 : decode cX8_whyNot 131 = .ok (.getfield 138, 3) := by decide +kernel
theorem dX8_whyNot_134 : decode cX8_whyNot 134 = .ok (.iadd, 1) := by decide +kernel
theorem dX8_whyNot_135 : decode cX8_whyNot 135 = .ok (.if_icmp .le 5, 3) := by decide +kernel
theorem dX8_whyNot_138 : decode cX8_whyNot 138 = .ok (.iconst 5, 1) := by decide +kernel
theorem dX8_whyNot_139 : decode cX8_whyNot 139 = .ok (.ireturn, 1) := by decide +kernel
theorem dX8_whyNot_140 : decode cX8_whyNot 140 = .ok (.aload_n 0, 1) := by decide +kernel
theorem dX8_whyNot_141 : decode cX8_whyNot 141 = .ok (.getfield 22, 3) := by decide +kernel
theorem dX8_whyNot_144 : decode cX8_whyNot 144 = .ok (.iload_n 1, 1) := by decide +kernel
theorem dX8_whyNot_145 : decode cX8_whyNot 145 = .ok (.iaload, 1) := by decide +kernel
theorem dX8_whyNot_146 : decode cX8_whyNot 146 = .ok (.iconst 3, 1) := by decide +kernel
theorem dX8_whyNot_147 : decode cX8_whyNot 147 = .ok (.if_icmp .ne 19, 3) := by decide +kernel
theorem dX8_whyNot_150 : decode cX8_whyNot 150 = .ok (.aload_n 0, 1) := by decide +kernel
theorem dX8_whyNot_151 : decode cX8_whyNot 151 = .ok (.getfield 22, 3) := by decide +kernel
theorem dX8_whyNot_154 : decode cX8_whyNot 154 = .ok (.iload 4, 2) := by decide +kernel
theorem dX8_whyNot_156 : decode cX8_whyNot 156 = .ok (.iaload, 1) := by decide +kernel
theorem dX8_whyNot_157 : decode cX8_whyNot 157 = .ok (.iconst 3, 1) := by decide +kernel
theorem dX8_whyNot_158 : decode cX8_whyNot 158 = .ok (.if_icmp .eq 8, 3) := by decide +kernel
theorem dX8_whyNot_161 : decode cX8_whyNot 161 = .ok (.bipush 6, 2) := by decide +kernel
theorem dX8_whyNot_163 : decode cX8_whyNot 163 = .ok (.goto 4, 3) := by decide +kernel
theorem dX8_whyNot_166 : decode cX8_whyNot 166 = .ok (.iconst 0, 1) := by decide +kernel
theorem dX8_whyNot_167 : decode cX8_whyNot 167 = .ok (.ireturn, 1) := by decide +kernel
theorem dX8_insideOf_0 : decode cX8_insideOf 0 = .ok (.iload_n 2, 1) := by decide +kernel
theorem dX8_insideOf_1 : decode cX8_insideOf 1 = .ok (.ifCond .ne 7, 3) := by decide +kernel
theorem dX8_insideOf_4 : decode cX8_insideOf 4 = .ok (.iconst (-1), 1) := by decide +kernel
theorem dX8_insideOf_5 : decode cX8_insideOf 5 = .ok (.goto 16, 3) := by decide +kernel
theorem dX8_insideOf_8 : decode cX8_insideOf 8 = .ok (.aload_n 0, 1) := by decide +kernel
theorem dX8_insideOf_9 : decode cX8_insideOf 9 = .ok (.getfield 53, 3) := by decide +kernel
theorem dX8_insideOf_12 : decode cX8_insideOf 12 = .ok (.bipush 6, 2) := by decide +kernel
theorem dX8_insideOf_14 : decode cX8_insideOf 14 = .ok (.iload_n 1, 1) := by decide +kernel
theorem dX8_insideOf_15 : decode cX8_insideOf 15 = .ok (.imul, 1) := by decide +kernel
theorem dX8_insideOf_16 : decode cX8_insideOf 16 = .ok (.iload_n 2, 1) := by decide +kernel
theorem dX8_insideOf_17 : decode cX8_insideOf 17 = .ok (.iadd, 1) := by decide +kernel
theorem dX8_insideOf_18 : decode cX8_insideOf 18 = .ok (.iconst 1, 1) := by decide +kernel
theorem dX8_insideOf_19 : decode cX8_insideOf 19 = .ok (.isub, 1) := by decide +kernel
theorem dX8_insideOf_20 : decode cX8_insideOf 20 = .ok (.iaload, 1) := by decide +kernel
theorem dX8_insideOf_21 : decode cX8_insideOf 21 = .ok (.ireturn, 1) := by decide +kernel
theorem dX8_whyNotOutside_0 : decode cX8_whyNotOutside 0 = .ok (.aload_n 0, 1) := by decide +kernel
theorem dX8_whyNotOutside_1 : decode cX8_whyNotOutside 1 = .ok (.iload_n 1, 1) := by decide +kernel
theorem dX8_whyNotOutside_2 : decode cX8_whyNotOutside 2 = .ok (.iload_n 2, 1) := by decide +kernel
theorem dX8_whyNotOutside_3 : decode cX8_whyNotOutside 3 = .ok (.aload_n 0, 1) := by decide +kernel
theorem dX8_whyNotOutside_4 : decode cX8_whyNotOutside 4 = .ok (.getfield 50, 3) := by decide +kernel
theorem dX8_whyNotOutside_7 : decode cX8_whyNotOutside 7 = .ok (.iload_n 2, 1) := by decide +kernel
theorem dX8_whyNotOutside_8 : decode cX8_whyNotOutside 8 = .ok (.iaload, 1) := by decide +kernel
theorem dX8_whyNotOutside_9 : decode cX8_whyNotOutside 9 = .ok (.aload_n 0, 1) := by decide +kernel
theorem dX8_whyNotOutside_10 : decode cX8_whyNotOutside 10 = .ok (.iload_n 2, 1) := by decide +kernel
theorem dX8_whyNotOutside_11 : decode cX8_whyNotOutside 11 = .ok (.aload_n 0, 1) := by decide +kernel
theorem dX8_whyNotOutside_12 : decode cX8_whyNotOutside 12 = .ok (.getfield 50, 3) := by decide +kernel
theorem dX8_whyNotOutside_15 : decode cX8_whyNotOutside 15 = .ok (.iload_n 2, 1) := by decide +kernel
theorem dX8_whyNotOutside_16 : decode cX8_whyNotOutside 16 = .ok (.iaload, 1) := by decide +kernel
theorem dX8_whyNotOutside_17 : decode cX8_whyNotOutside 17 = .ok (.invokevirtual 152, 3) := by decide +kernel
theorem dX8_whyNotOutside_20 : decode cX8_whyNotOutside 20 = .ok (.invokevirtual 156, 3) := by decide +kernel
theorem dX8_whyNotOutside_23 : decode cX8_whyNotOutside 23 = .ok (.ireturn, 1) := by decide +kernel
theorem dX8_may_0 : decode cX8_may 0 = .ok (.aload_n 0, 1) := by decide +kernel
theorem dX8_may_1 : decode cX8_may 1 = .ok (.iload_n 1, 1) := by decide +kernel
theorem dX8_may_2 : decode cX8_may 2 = .ok (.invokevirtual 131, 3) := by decide +kernel
theorem dX8_may_5 : decode cX8_may 5 = .ok (.ifCond .eq 11, 3) := by decide +kernel
theorem dX8_may_8 : decode cX8_may 8 = .ok (.aload_n 0, 1) := by decide +kernel
theorem dX8_may_9 : decode cX8_may 9 = .ok (.iload_n 2, 1) := by decide +kernel
theorem dX8_may_10 : decode cX8_may 10 = .ok (.invokevirtual 149, 3) := by decide +kernel
theorem dX8_may_13 : decode cX8_may 13 = .ok (.ifCond .ne 10, 3) := by decide +kernel
theorem dX8_may_16 : decode cX8_may 16 = .ok (.aload_n 0, 1) := by decide +kernel
theorem dX8_may_17 : decode cX8_may 17 = .ok (.ldc 125, 2) := by decide +kernel
theorem dX8_may_19 : decode cX8_may 19 = .ok (.invokevirtual 126, 3) := by decide +kernel
theorem dX8_may_22 : decode cX8_may 22 = .ok (.ireturn, 1) := by decide +kernel
theorem dX8_may_23 : decode cX8_may 23 = .ok (.aload_n 0, 1) := by decide +kernel
theorem dX8_may_24 : decode cX8_may 24 = .ok (.iload_n 1, 1) := by decide +kernel
theorem dX8_may_25 : decode cX8_may 25 = .ok (.invokevirtual 146, 3) := by decide +kernel
theorem dX8_may_28 : decode cX8_may 28 = .ok (.ifCond .lt 12, 3) := by decide +kernel
theorem dX8_may_31 : decode cX8_may 31 = .ok (.aload_n 0, 1) := by decide +kernel
theorem dX8_may_32 : decode cX8_may 32 = .ok (.ldc 160, 2) := by decide +kernel
theorem dX8_may_34 : decode cX8_may 34 = .ok (.invokevirtual 126, 3) := by decide +kernel
theorem dX8_may_37 : decode cX8_may 37 = .ok (.goto 9, 3) := by decide +kernel
theorem dX8_may_40 : decode cX8_may 40 = .ok (.aload_n 0, 1) := by decide +kernel
theorem dX8_may_41 : decode cX8_may 41 = .ok (.iload_n 1, 1) := by decide +kernel
theorem dX8_may_42 : decode cX8_may 42 = .ok (.iload_n 2, 1) := by decide +kernel
theorem dX8_may_43 : decode cX8_may 43 = .ok (.invokevirtual 161, 3) := by decide +kernel
theorem dX8_may_46 : decode cX8_may 46 = .ok (.ireturn, 1) := by decide +kernel
theorem dX8_laysOut_0 : decode cX8_laysOut 0 = .ok (.aload_n 0, 1) := by decide +kernel
theorem dX8_laysOut_1 : decode cX8_laysOut 1 = .ok (.getfield 53, 3) := by decide +kernel
theorem dX8_laysOut_4 : decode cX8_laysOut 4 = .ok (.bipush 6, 2) := by decide +kernel
theorem dX8_laysOut_6 : decode cX8_laysOut 6 = .ok (.iload_n 2, 1) := by decide +kernel
theorem dX8_laysOut_7 : decode cX8_laysOut 7 = .ok (.imul, 1) := by decide +kernel
theorem dX8_laysOut_8 : decode cX8_laysOut 8 = .ok (.aload_n 0, 1) := by decide +kernel
theorem dX8_laysOut_9 : decode cX8_laysOut 9 = .ok (.getfield 50, 3) := by decide +kernel
theorem dX8_laysOut_12 : decode cX8_laysOut 12 = .ok (.iload_n 2, 1) := by decide +kernel
theorem dX8_laysOut_13 : decode cX8_laysOut 13 = .ok (.iaload, 1) := by decide +kernel
theorem dX8_laysOut_14 : decode cX8_laysOut 14 = .ok (.iadd, 1) := by decide +kernel
theorem dX8_laysOut_15 : decode cX8_laysOut 15 = .ok (.iload_n 1, 1) := by decide +kernel
theorem dX8_laysOut_16 : decode cX8_laysOut 16 = .ok (.iastore, 1) := by decide +kernel
theorem dX8_laysOut_17 : decode cX8_laysOut 17 = .ok (.aload_n 0, 1) := by decide +kernel
theorem dX8_laysOut_18 : decode cX8_laysOut 18 = .ok (.getfield 50, 3) := by decide +kernel
theorem dX8_laysOut_21 : decode cX8_laysOut 21 = .ok (.iload_n 2, 1) := by decide +kernel
theorem dX8_laysOut_22 : decode cX8_laysOut 22 = .ok (.dup2, 1) := by decide +kernel
theorem dX8_laysOut_23 : decode cX8_laysOut 23 = .ok (.iaload, 1) := by decide +kernel
theorem dX8_laysOut_24 : decode cX8_laysOut 24 = .ok (.iconst 1, 1) := by decide +kernel
theorem dX8_laysOut_25 : decode cX8_laysOut 25 = .ok (.iadd, 1) := by decide +kernel
theorem dX8_laysOut_26 : decode cX8_laysOut 26 = .ok (.iastore, 1) := by decide +kernel
theorem dX8_laysOut_27 : decode cX8_laysOut 27 = .ok (.return_, 1) := by decide +kernel
theorem dX8_comes_0 : decode cX8_comes 0 = .ok (.aload_n 0, 1) := by decide +kernel
theorem dX8_comes_1 : decode cX8_comes 1 = .ok (.iload_n 1, 1) := by decide +kernel
theorem dX8_comes_2 : decode cX8_comes 2 = .ok (.invokevirtual 131, 3) := by decide +kernel
theorem dX8_comes_5 : decode cX8_comes 5 = .ok (.ifCond .eq 11, 3) := by decide +kernel
theorem dX8_comes_8 : decode cX8_comes 8 = .ok (.aload_n 0, 1) := by decide +kernel
theorem dX8_comes_9 : decode cX8_comes 9 = .ok (.iload_n 2, 1) := by decide +kernel
theorem dX8_comes_10 : decode cX8_comes 10 = .ok (.invokevirtual 149, 3) := by decide +kernel
theorem dX8_comes_13 : decode cX8_comes 13 = .ok (.ifCond .ne 10, 3) := by decide +kernel
theorem dX8_comes_16 : decode cX8_comes 16 = .ok (.aload_n 0, 1) := by decide +kernel
theorem dX8_comes_17 : decode cX8_comes 17 = .ok (.ldc 125, 2) := by decide +kernel
theorem dX8_comes_19 : decode cX8_comes 19 = .ok (.invokevirtual 126, 3) := by decide +kernel
theorem dX8_comes_22 : decode cX8_comes 22 = .ok (.ireturn, 1) := by decide +kernel
theorem dX8_comes_23 : decode cX8_comes 23 = .ok (.aload_n 0, 1) := by decide +kernel
theorem dX8_comes_24 : decode cX8_comes 24 = .ok (.iload_n 1, 1) := by decide +kernel
theorem dX8_comes_25 : decode cX8_comes 25 = .ok (.invokevirtual 146, 3) := by decide +kernel
theorem dX8_comes_28 : decode cX8_comes 28 = .ok (.ifCond .lt 10, 3) := by decide +kernel
theorem dX8_comes_31 : decode cX8_comes 31 = .ok (.aload_n 0, 1) := by decide +kernel
theorem dX8_comes_32 : decode cX8_comes 32 = .ok (.ldc 160, 2) := by decide +kernel
theorem dX8_comes_34 : decode cX8_comes 34 = .ok (.invokevirtual 126, 3) := by decide +kernel
theorem dX8_comes_37 : decode cX8_comes 37 = .ok (.ireturn, 1) := by decide +kernel
theorem dX8_comes_38 : decode cX8_comes 38 = .ok (.aload_n 0, 1) := by decide +kernel
theorem dX8_comes_39 : decode cX8_comes 39 = .ok (.iload_n 1, 1) := by decide +kernel
theorem dX8_comes_40 : decode cX8_comes 40 = .ok (.iload_n 2, 1) := by decide +kernel
theorem dX8_comes_41 : decode cX8_comes 41 = .ok (.invokevirtual 161, 3) := by decide +kernel
theorem dX8_comes_44 : decode cX8_comes 44 = .ok (.istore_n 3, 1) := by decide +kernel
theorem dX8_comes_45 : decode cX8_comes 45 = .ok (.iload_n 3, 1) := by decide +kernel
theorem dX8_comes_46 : decode cX8_comes 46 = .ok (.ifCond .eq 20, 3) := by decide +kernel
theorem dX8_comes_49 : decode cX8_comes 49 = .ok (.aload_n 0, 1) := by decide +kernel
theorem dX8_comes_50 : decode cX8_comes 50 = .ok (.iload_n 3, 1) := by decide +kernel
theorem dX8_comes_51 : decode cX8_comes 51 = .ok (.iconst 1, 1) := by decide +kernel
theorem dX8_comes_52 : decode cX8_comes 52 = .ok (.if_icmp .ne 8, 3) := by decide +kernel
theorem dX8_comes_55 : decode cX8_comes 55 = .ok (.ldc 130, 2) := by decide +kernel
theorem dX8_comes_57 : decode cX8_comes 57 = .ok (.goto 5, 3) := by decide +kernel
theorem dX8_comes_60 : decode cX8_comes 60 = .ok (.ldc 145, 2) := by decide +kernel
theorem dX8_comes_62 : decode cX8_comes 62 = .ok (.invokevirtual 126, 3) := by decide +kernel
theorem dX8_comes_65 : decode cX8_comes 65 = .ok (.ireturn, 1) := by decide +kernel
theorem dX8_comes_66 : decode cX8_comes 66 = .ok (.aload_n 0, 1) := by decide +kernel
theorem dX8_comes_67 : decode cX8_comes 67 = .ok (.iload_n 1, 1) := by decide +kernel
theorem dX8_comes_68 : decode cX8_comes 68 = .ok (.iload_n 2, 1) := by decide +kernel
theorem dX8_comes_69 : decode cX8_comes 69 = .ok (.invokevirtual 164, 3) := by decide +kernel
theorem dX8_comes_72 : decode cX8_comes 72 = .ok (.aload_n 0, 1) := by decide +kernel
theorem dX8_comes_73 : decode cX8_comes 73 = .ok (.getfield 50, 3) := by decide +kernel
theorem dX8_comes_76 : decode cX8_comes 76 = .ok (.iload_n 2, 1) := by decide +kernel
theorem dX8_comes_77 : decode cX8_comes 77 = .ok (.iaload, 1) := by decide +kernel
theorem dX8_comes_78 : decode cX8_comes 78 = .ok (.iconst 1, 1) := by decide +kernel
theorem dX8_comes_79 : decode cX8_comes 79 = .ok (.isub, 1) := by decide +kernel
theorem dX8_comes_80 : decode cX8_comes 80 = .ok (.ireturn, 1) := by decide +kernel
theorem dX8_counts_0 : decode cX8_counts 0 = .ok (.aload_n 0, 1) := by decide +kernel
theorem dX8_counts_1 : decode cX8_counts 1 = .ok (.getfield 47, 3) := by decide +kernel
theorem dX8_counts_4 : decode cX8_counts 4 = .ok (.iload_n 1, 1) := by decide +kernel
theorem dX8_counts_5 : decode cX8_counts 5 = .ok (.dup2, 1) := by decide +kernel
theorem dX8_counts_6 : decode cX8_counts 6 = .ok (.iaload, 1) := by decide +kernel
theorem dX8_counts_7 : decode cX8_counts 7 = .ok (.iconst 1, 1) := by decide +kernel
theorem dX8_counts_8 : decode cX8_counts 8 = .ok (.iadd, 1) := by decide +kernel
theorem dX8_counts_9 : decode cX8_counts 9 = .ok (.iastore, 1) := by decide +kernel
theorem dX8_counts_10 : decode cX8_counts 10 = .ok (.aload_n 0, 1) := by decide +kernel
theorem dX8_counts_11 : decode cX8_counts 11 = .ok (.dup, 1) := by decide +kernel
theorem dX8_counts_12 : decode cX8_counts 12 = .ok (.getfield 168, 3) := by decide +kernel
theorem dX8_counts_15 : decode cX8_counts 15 = .ok (.iconst 1, 1) := by decide +kernel
theorem dX8_counts_16 : decode cX8_counts 16 = .ok (.iadd, 1) := by decide +kernel
theorem dX8_counts_17 : decode cX8_counts 17 = .ok (.putfield 168, 3) := by decide +kernel
theorem dX8_counts_20 : decode cX8_counts 20 = .ok (.return_, 1) := by decide +kernel
theorem dX8_between_0 : decode cX8_between 0 = .ok (.aload_n 0, 1) := by decide +kernel
theorem dX8_between_1 : decode cX8_between 1 = .ok (.iload_n 1, 1) := by decide +kernel
theorem dX8_between_2 : decode cX8_between 2 = .ok (.invokevirtual 131, 3) := by decide +kernel
theorem dX8_between_5 : decode cX8_between 5 = .ok (.ifCond .eq 25, 3) := by decide +kernel
theorem dX8_between_8 : decode cX8_between 8 = .ok (.aload_n 0, 1) := by decide +kernel
theorem dX8_between_9 : decode cX8_between 9 = .ok (.iload_n 2, 1) := by decide +kernel
theorem dX8_between_10 : decode cX8_between 10 = .ok (.invokevirtual 149, 3) := by decide +kernel
theorem dX8_between_13 : decode cX8_between 13 = .ok (.ifCond .eq 17, 3) := by decide +kernel
theorem dX8_between_16 : decode cX8_between 16 = .ok (.iload_n 3, 1) := by decide +kernel
theorem dX8_between_17 : decode cX8_between 17 = .ok (.iconst 0, 1) := by decide +kernel
theorem dX8_between_18 : decode cX8_between 18 = .ok (.aload_n 0, 1) := by decide +kernel
theorem dX8_between_19 : decode cX8_between 19 = .ok (.getfield 50, 3) := by decide +kernel
theorem dX8_between_22 : decode cX8_between 22 = .ok (.iload_n 2, 1) := by decide +kernel
theorem dX8_between_23 : decode cX8_between 23 = .ok (.iaload, 1) := by decide +kernel
theorem dX8_between_24 : decode cX8_between 24 = .ok (.invokestatic 118, 3) := by decide +kernel
theorem dX8_between_27 : decode cX8_between 27 = .ok (.ifCond .ne 10, 3) := by decide +kernel
theorem dX8_between_30 : decode cX8_between 30 = .ok (.aload_n 0, 1) := by decide +kernel
theorem dX8_between_31 : decode cX8_between 31 = .ok (.ldc 125, 2) := by decide +kernel
theorem dX8_between_33 : decode cX8_between 33 = .ok (.invokevirtual 126, 3) := by decide +kernel
theorem dX8_between_36 : decode cX8_between 36 = .ok (.ireturn, 1) := by decide +kernel
theorem dX8_between_37 : decode cX8_between 37 = .ok (.aload_n 0, 1) := by decide +kernel
theorem dX8_between_38 : decode cX8_between 38 = .ok (.iload_n 1, 1) := by decide +kernel
theorem dX8_between_39 : decode cX8_between 39 = .ok (.invokevirtual 146, 3) := by decide +kernel
theorem dX8_between_42 : decode cX8_between 42 = .ok (.ifCond .lt 10, 3) := by decide +kernel
theorem dX8_between_45 : decode cX8_between 45 = .ok (.aload_n 0, 1) := by decide +kernel
theorem dX8_between_46 : decode cX8_between 46 = .ok (.ldc 160, 2) := by decide +kernel
theorem dX8_between_48 : decode cX8_between 48 = .ok (.invokevirtual 126, 3) := by decide +kernel
theorem dX8_between_51 : decode cX8_between 51 = .ok (.ireturn, 1) := by decide +kernel
theorem dX8_between_52 : decode cX8_between 52 = .ok (.aload_n 0, 1) := by decide +kernel
theorem dX8_between_53 : decode cX8_between 53 = .ok (.getfield 50, 3) := by decide +kernel
theorem dX8_between_56 : decode cX8_between 56 = .ok (.iload_n 2, 1) := by decide +kernel
theorem dX8_between_57 : decode cX8_between 57 = .ok (.iaload, 1) := by decide +kernel
theorem dX8_between_58 : decode cX8_between 58 = .ok (.aload_n 0, 1) := by decide +kernel
theorem dX8_between_59 : decode cX8_between 59 = .ok (.getfield 16, 3) := by decide +kernel
theorem dX8_between_62 : decode cX8_between 62 = .ok (.iload_n 2, 1) := by decide +kernel
theorem dX8_between_63 : decode cX8_between 63 = .ok (.iaload, 1) := by decide +kernel
theorem dX8_between_64 : decode cX8_between 64 = .ok (.if_icmp .ne 10, 3) := by decide +kernel
theorem dX8_between_67 : decode cX8_between 67 = .ok (.aload_n 0, 1) := by decide +kernel
theorem dX8_between_68 : decode cX8_between 68 = .ok (.ldc 130, 2) := by decide +kernel
theorem dX8_between_70 : decode cX8_between 70 = .ok (.invokevirtual 126, 3) := by decide +kernel
theorem dX8_between_73 : decode cX8_between 73 = .ok (.ireturn, 1) := by decide +kernel
theorem dX8_between_74 : decode cX8_between 74 = .ok (.aload_n 0, 1) := by decide +kernel
theorem dX8_between_75 : decode cX8_between 75 = .ok (.iload_n 1, 1) := by decide +kernel
theorem dX8_between_76 : decode cX8_between 76 = .ok (.iload_n 2, 1) := by decide +kernel
theorem dX8_between_77 : decode cX8_between 77 = .ok (.iload_n 3, 1) := by decide +kernel
theorem dX8_between_78 : decode cX8_between 78 = .ok (.aload_n 0, 1) := by decide +kernel
theorem dX8_between_79 : decode cX8_between 79 = .ok (.iload_n 2, 1) := by decide +kernel
theorem dX8_between_80 : decode cX8_between 80 = .ok (.iload_n 3, 1) := by decide +kernel
theorem dX8_between_81 : decode cX8_between 81 = .ok (.invokevirtual 152, 3) := by decide +kernel
theorem dX8_between_84 : decode cX8_between 84 = .ok (.invokevirtual 156, 3) := by decide +kernel
theorem dX8_between_87 : decode cX8_between 87 = .ok (.ifCond .ne 7, 3) := by decide +kernel
theorem dX8_between_90 : decode cX8_between 90 = .ok (.iconst 1, 1) := by decide +kernel
theorem dX8_between_91 : decode cX8_between 91 = .ok (.goto 4, 3) := by decide +kernel
theorem dX8_between_94 : decode cX8_between 94 = .ok (.iconst 0, 1) := by decide +kernel
theorem dX8_between_95 : decode cX8_between 95 = .ok (.istore 4, 2) := by decide +kernel
theorem dX8_between_97 : decode cX8_between 97 = .ok (.iload_n 3, 1) := by decide +kernel
theorem dX8_between_98 : decode cX8_between 98 = .ok (.istore 5, 2) := by decide +kernel
theorem dX8_between_100 : decode cX8_between 100 = .ok (.iload 5, 2) := by decide +kernel
theorem dX8_between_102 : decode cX8_between 102 = .ok (.aload_n 0, 1) := by decide +kernel
theorem dX8_between_103 : decode cX8_between 103 = .ok (.getfield 50, 3) := by decide +kernel
theorem dX8_between_106 : decode cX8_between 106 = .ok (.iload_n 2, 1) := by decide +kernel
theorem dX8_between_107 : decode cX8_between 107 = .ok (.iaload, 1) := by decide +kernel
theorem dX8_between_108 : decode cX8_between 108 = .ok (.if_icmp .ge 73, 3) := by decide +kernel
theorem dX8_between_111 : decode cX8_between 111 = .ok (.iload 5, 2) := by decide +kernel
theorem dX8_between_113 : decode cX8_between 113 = .ok (.iload_n 3, 1) := by decide +kernel
theorem dX8_between_114 : decode cX8_between 114 = .ok (.if_icmp .ne 7, 3) := by decide +kernel
theorem dX8_between_117 : decode cX8_between 117 = .ok (.iload_n 1, 1) := by decide +kernel
theorem dX8_between_118 : decode cX8_between 118 = .ok (.goto 17, 3) := by decide +kernel
theorem dX8_between_121 : decode cX8_between 121 = .ok (.aload_n 0, 1) := by decide +kernel
theorem dX8_between_122 : decode cX8_between 122 = .ok (.getfield 53, 3) := by decide +kernel
theorem dX8_between_125 : decode cX8_between 125 = .ok (.bipush 6, 2) := by decide +kernel
theorem dX8_between_127 : decode cX8_between 127 = .ok (.iload_n 2, 1) := by decide +kernel
theorem dX8_between_128 : decode cX8_between 128 = .ok (.imul, 1) := by decide +kernel
theorem dX8_between_129 : decode cX8_between 129 = .ok (.iload 5, 2) := by decide +kernel
theorem dX8_between_131 : decode cX8_between 131 = .ok (.iadd, 1) := by decide +kernel
theorem dX8_between_132 : decode cX8_between 132 = .ok (.iconst 1, 1) := by decide +kernel
theorem dX8_between_133 : decode cX8_between 133 = .ok (.isub, 1) := by decide +kernel
theorem dX8_between_134 : decode cX8_between 134 = .ok (.iaload, 1) := by decide +kernel
theorem dX8_between_135 : decode cX8_between 135 = .ok (.istore 6, 2) := by decide +kernel
theorem dX8_between_137 : decode cX8_between 137 = .ok (.iload 4, 2) := by decide +kernel
theorem dX8_between_139 : decode cX8_between 139 = .ok (.ifCond .eq 33, 3) := by decide +kernel
theorem dX8_between_142 : decode cX8_between 142 = .ok (.aload_n 0, 1) := by decide +kernel
theorem dX8_between_143 : decode cX8_between 143 = .ok (.aload_n 0, 1) := by decide +kernel
theorem dX8_between_144 : decode cX8_between 144 = .ok (.getfield 53, 3) := by decide +kernel
theorem dX8_between_147 : decode cX8_between 147 = .ok (.bipush 6, 2) := by decide +kernel
theorem dX8_between_149 : decode cX8_between 149 = .ok (.iload_n 2, 1) := by decide +kernel
theorem dX8_between_150 : decode cX8_between 150 = .ok (.imul, 1) := by decide +kernel
theorem dX8_between_151 : decode cX8_between 151 = .ok (.iload 5, 2) := by decide +kernel
theorem dX8_between_153 : decode cX8_between 153 = .ok (.iadd, 1) := by decide +kernel
theorem dX8_between_154 : decode cX8_between 154 = .ok (.iaload, 1) := by decide +kernel
theorem dX8_between_155 : decode cX8_between 155 = .ok (.iload_n 2, 1) := by decide +kernel
theorem dX8_between_156 : decode cX8_between 156 = .ok (.iload 5, 2) := by decide +kernel
theorem dX8_between_158 : decode cX8_between 158 = .ok (.iconst 1, 1) := by decide +kernel
theorem dX8_between_159 : decode cX8_between 159 = .ok (.iadd, 1) := by decide +kernel
theorem dX8_between_160 : decode cX8_between 160 = .ok (.iload 6, 2) := by decide +kernel
theorem dX8_between_162 : decode cX8_between 162 = .ok (.invokevirtual 156, 3) := by decide +kernel
theorem dX8_between_165 : decode cX8_between 165 = .ok (.ifCond .ne 7, 3) := by decide +kernel
theorem dX8_between_168 : decode cX8_between 168 = .ok (.iconst 1, 1) := by decide +kernel
theorem dX8_between_169 : decode cX8_between 169 = .ok (.goto 4, 3) := by decide +kernel
theorem dX8_between_172 : decode cX8_between 172 = .ok (.iconst 0, 1) := by decide +kernel
theorem dX8_between_173 : decode cX8_between 173 = .ok (.istore 4, 2) := by decide +kernel
theorem dX8_between_175 : decode cX8_between 175 = .ok (.iinc 5 1, 3) := by decide +kernel
theorem dX8_between_178 : decode cX8_between 178 = .ok (.goto (-78), 3) := by decide +kernel
theorem dX8_between_181 : decode cX8_between 181 = .ok (.iload 4, 2) := by decide +kernel
theorem dX8_between_183 : decode cX8_between 183 = .ok (.ifCond .ne 10, 3) := by decide +kernel
theorem dX8_between_186 : decode cX8_between 186 = .ok (.aload_n 0, 1) := by decide +kernel
theorem dX8_between_187 : decode cX8_between 187 = .ok (.ldc 145, 2) := by decide +kernel
theorem dX8_between_189 : decode cX8_between 189 = .ok (.invokevirtual 126, 3) := by decide +kernel
theorem dX8_between_192 : decode cX8_between 192 = .ok (.ireturn, 1) := by decide +kernel
theorem dX8_between_193 : decode cX8_between 193 = .ok (.aload_n 0, 1) := by decide +kernel
theorem dX8_between_194 : decode cX8_between 194 = .ok (.getfield 50, 3) := by decide +kernel
theorem dX8_between_197 : decode cX8_between 197 = .ok (.iload_n 2, 1) := by decide +kernel
theorem dX8_between_198 : decode cX8_between 198 = .ok (.iaload, 1) := by decide +kernel
theorem dX8_between_199 : decode cX8_between 199 = .ok (.iload_n 3, 1) := by decide +kernel
theorem dX8_between_200 : decode cX8_between 200 = .ok (.isub, 1) := by decide +kernel
theorem dX8_between_201 : decode cX8_between 201 = .ok (.istore 5, 2) := by decide +kernel
theorem dX8_between_203 : decode cX8_between 203 = .ok (.aload_n 0, 1) := by decide +kernel
theorem dX8_between_204 : decode cX8_between 204 = .ok (.getfield 50, 3) := by decide +kernel
theorem dX8_between_207 : decode cX8_between 207 = .ok (.iload_n 2, 1) := by decide +kernel
theorem dX8_between_208 : decode cX8_between 208 = .ok (.iaload, 1) := by decide +kernel
theorem dX8_between_209 : decode cX8_between 209 = .ok (.istore 6, 2) := by decide +kernel
theorem dX8_between_211 : decode cX8_between 211 = .ok (.iload 6, 2) := by decide +kernel
theorem dX8_between_213 : decode cX8_between 213 = .ok (.iload_n 3, 1) := by decide +kernel
theorem dX8_between_214 : decode cX8_between 214 = .ok (.if_icmp .le 51, 3) := by decide +kernel
theorem dX8_between_217 : decode cX8_between 217 = .ok (.aload_n 0, 1) := by decide +kernel
theorem dX8_between_218 : decode cX8_between 218 = .ok (.getfield 53, 3) := by decide +kernel
theorem dX8_between_221 : decode cX8_between 221 = .ok (.bipush 6, 2) := by decide +kernel
theorem dX8_between_223 : decode cX8_between 223 = .ok (.iload_n 2, 1) := by decide +kernel
theorem dX8_between_224 : decode cX8_between 224 = .ok (.imul, 1) := by decide +kernel
theorem dX8_between_225 : decode cX8_between 225 = .ok (.iload 6, 2) := by decide +kernel
theorem dX8_between_227 : decode cX8_between 227 = .ok (.iadd, 1) := by decide +kernel
theorem dX8_between_228 : decode cX8_between 228 = .ok (.aload_n 0, 1) := by decide +kernel
theorem dX8_between_229 : decode cX8_between 229 = .ok (.getfield 53, 3) := by decide +kernel
theorem dX8_between_232 : decode cX8_between 232 = .ok (.bipush 6, 2) := by decide +kernel
theorem dX8_between_234 : decode cX8_between 234 = .ok (.iload_n 2, 1) := by decide +kernel
theorem dX8_between_235 : decode cX8_between 235 = .ok (.imul, 1) := by decide +kernel
theorem dX8_between_236 : decode cX8_between 236 = .ok (.iload 6, 2) := by decide +kernel
theorem dX8_between_238 : decode cX8_between 238 = .ok (.iadd, 1) := by decide +kernel
theorem dX8_between_239 : decode cX8_between 239 = .ok (.iconst 1, 1) := by decide +kernel
theorem dX8_between_240 : decode cX8_between 240 = .ok (.isub, 1) := by decide +kernel
theorem dX8_between_241 : decode cX8_between 241 = .ok (.iaload, 1) := by decide +kernel
theorem dX8_between_242 : decode cX8_between 242 = .ok (.iastore, 1) := by decide +kernel
theorem dX8_between_243 : decode cX8_between 243 = .ok (.aload_n 0, 1) := by decide +kernel
theorem dX8_between_244 : decode cX8_between 244 = .ok (.aload_n 0, 1) := by decide +kernel
theorem dX8_between_245 : decode cX8_between 245 = .ok (.getfield 53, 3) := by decide +kernel
theorem dX8_between_248 : decode cX8_between 248 = .ok (.bipush 6, 2) := by decide +kernel
theorem dX8_between_250 : decode cX8_between 250 = .ok (.iload_n 2, 1) := by decide +kernel
theorem dX8_between_251 : decode cX8_between 251 = .ok (.imul, 1) := by decide +kernel
theorem dX8_between_252 : decode cX8_between 252 = .ok (.iload 6, 2) := by decide +kernel
theorem dX8_between_254 : decode cX8_between 254 = .ok (.iadd, 1) := by decide +kernel
theorem dX8_between_255 : decode cX8_between 255 = .ok (.iaload, 1) := by decide +kernel
theorem dX8_between_256 : decode cX8_between 256 = .ok (.invokevirtual 171, 3) := by decide +kernel
theorem dX8_between_259 : decode cX8_between 259 = .ok (.iinc 6 (-1), 3) := by decide +kernel
theorem dX8_between_262 : decode cX8_between 262 = .ok (.goto (-51), 3) := by decide +kernel
theorem dX8_between_265 : decode cX8_between 265 = .ok (.aload_n 0, 1) := by decide +kernel
theorem dX8_between_266 : decode cX8_between 266 = .ok (.getfield 53, 3) := by decide +kernel
theorem dX8_between_269 : decode cX8_between 269 = .ok (.bipush 6, 2) := by decide +kernel
theorem dX8_between_271 : decode cX8_between 271 = .ok (.iload_n 2, 1) := by decide +kernel
theorem dX8_between_272 : decode cX8_between 272 = .ok (.imul, 1) := by decide +kernel
theorem dX8_between_273 : decode cX8_between 273 = .ok (.iload_n 3, 1) := by decide +kernel
theorem dX8_between_274 : decode cX8_between 274 = .ok (.iadd, 1) := by decide +kernel
theorem dX8_between_275 : decode cX8_between 275 = .ok (.iload_n 1, 1) := by decide +kernel
theorem dX8_between_276 : decode cX8_between 276 = .ok (.iastore, 1) := by decide +kernel
theorem dX8_between_277 : decode cX8_between 277 = .ok (.aload_n 0, 1) := by decide +kernel
theorem dX8_between_278 : decode cX8_between 278 = .ok (.getfield 50, 3) := by decide +kernel
theorem dX8_between_281 : decode cX8_between 281 = .ok (.iload_n 2, 1) := by decide +kernel
theorem dX8_between_282 : decode cX8_between 282 = .ok (.dup2, 1) := by decide +kernel
theorem dX8_between_283 : decode cX8_between 283 = .ok (.iaload, 1) := by decide +kernel
theorem dX8_between_284 : decode cX8_between 284 = .ok (.iconst 1, 1) := by decide +kernel
theorem dX8_between_285 : decode cX8_between 285 = .ok (.iadd, 1) := by decide +kernel
theorem dX8_between_286 : decode cX8_between 286 = .ok (.iastore, 1) := by decide +kernel
theorem dX8_between_287 : decode cX8_between 287 = .ok (.iload 5, 2) := by decide +kernel
theorem dX8_between_289 : decode cX8_between 289 = .ok (.ireturn, 1) := by decide +kernel
theorem dX8_leavesNow_0 : decode cX8_leavesNow 0 = .ok (.iload_n 1, 1) := by decide +kernel
theorem dX8_leavesNow_1 : decode cX8_leavesNow 1 = .ok (.bipush 6, 2) := by decide +kernel
theorem dX8_leavesNow_3 : decode cX8_leavesNow 3 = .ok (.idiv, 1) := by decide +kernel
theorem dX8_leavesNow_4 : decode cX8_leavesNow 4 = .ok (.istore_n 2, 1) := by decide +kernel
theorem dX8_leavesNow_5 : decode cX8_leavesNow 5 = .ok (.aload_n 0, 1) := by decide +kernel
theorem dX8_leavesNow_6 : decode cX8_leavesNow 6 = .ok (.getfield 50, 3) := by decide +kernel
theorem dX8_leavesNow_9 : decode cX8_leavesNow 9 = .ok (.iload_n 2, 1) := by decide +kernel
theorem dX8_leavesNow_10 : decode cX8_leavesNow 10 = .ok (.dup2, 1) := by decide +kernel
theorem dX8_leavesNow_11 : decode cX8_leavesNow 11 = .ok (.iaload, 1) := by decide +kernel
theorem dX8_leavesNow_12 : decode cX8_leavesNow 12 = .ok (.iconst 1, 1) := by decide +kernel
theorem dX8_leavesNow_13 : decode cX8_leavesNow 13 = .ok (.isub, 1) := by decide +kernel
theorem dX8_leavesNow_14 : decode cX8_leavesNow 14 = .ok (.iastore, 1) := by decide +kernel
theorem dX8_leavesNow_15 : decode cX8_leavesNow 15 = .ok (.aload_n 0, 1) := by decide +kernel
theorem dX8_leavesNow_16 : decode cX8_leavesNow 16 = .ok (.getfield 50, 3) := by decide +kernel
theorem dX8_leavesNow_19 : decode cX8_leavesNow 19 = .ok (.iload_n 2, 1) := by decide +kernel
theorem dX8_leavesNow_20 : decode cX8_leavesNow 20 = .ok (.iaload, 1) := by decide +kernel
theorem dX8_leavesNow_21 : decode cX8_leavesNow 21 = .ok (.iload_n 1, 1) := by decide +kernel
theorem dX8_leavesNow_22 : decode cX8_leavesNow 22 = .ok (.bipush 6, 2) := by decide +kernel
theorem dX8_leavesNow_24 : decode cX8_leavesNow 24 = .ok (.irem, 1) := by decide +kernel
theorem dX8_leavesNow_25 : decode cX8_leavesNow 25 = .ok (.isub, 1) := by decide +kernel
theorem dX8_leavesNow_26 : decode cX8_leavesNow 26 = .ok (.istore_n 3, 1) := by decide +kernel
theorem dX8_leavesNow_27 : decode cX8_leavesNow 27 = .ok (.iload_n 1, 1) := by decide +kernel
theorem dX8_leavesNow_28 : decode cX8_leavesNow 28 = .ok (.istore 4, 2) := by decide +kernel
theorem dX8_leavesNow_30 : decode cX8_leavesNow 30 = .ok (.iload 4, 2) := by decide +kernel
theorem dX8_leavesNow_32 : decode cX8_leavesNow 32 = .ok (.bipush 6, 2) := by decide +kernel
theorem dX8_leavesNow_34 : decode cX8_leavesNow 34 = .ok (.iload_n 2, 1) := by decide +kernel
theorem dX8_leavesNow_35 : decode cX8_leavesNow 35 = .ok (.imul, 1) := by decide +kernel
theorem dX8_leavesNow_36 : decode cX8_leavesNow 36 = .ok (.aload_n 0, 1) := by decide +kernel
theorem dX8_leavesNow_37 : decode cX8_leavesNow 37 = .ok (.getfield 50, 3) := by decide +kernel
theorem dX8_leavesNow_40 : decode cX8_leavesNow 40 = .ok (.iload_n 2, 1) := by decide +kernel
theorem dX8_leavesNow_41 : decode cX8_leavesNow 41 = .ok (.iaload, 1) := by decide +kernel
theorem dX8_leavesNow_42 : decode cX8_leavesNow 42 = .ok (.iadd, 1) := by decide +kernel
theorem dX8_leavesNow_43 : decode cX8_leavesNow 43 = .ok (.if_icmp .ge 36, 3) := by decide +kernel
theorem dX8_leavesNow_46 : decode cX8_leavesNow 46 = .ok (.aload_n 0, 1) := by decide +kernel
theorem dX8_leavesNow_47 : decode cX8_leavesNow 47 = .ok (.getfield 53, 3) := by decide +kernel
theorem dX8_leavesNow_50 : decode cX8_leavesNow 50 = .ok (.iload 4, 2) := by decide +kernel
theorem dX8_leavesNow_52 : decode cX8_leavesNow 52 = .ok (.aload_n 0, 1) := by decide +kernel
theorem dX8_leavesNow_53 : decode cX8_leavesNow 53 = .ok (.getfield 53, 3) := by decide +kernel
theorem dX8_leavesNow_56 : decode cX8_leavesNow 56 = .ok (.iload 4, 2) := by decide +kernel
theorem dX8_leavesNow_58 : decode cX8_leavesNow 58 = .ok (.iconst 1, 1) := by decide +kernel
theorem dX8_leavesNow_59 : decode cX8_leavesNow 59 = .ok (.iadd, 1) := by decide +kernel
theorem dX8_leavesNow_60 : decode cX8_leavesNow 60 = .ok (.iaload, 1) := by decide +kernel
theorem dX8_leavesNow_61 : decode cX8_leavesNow 61 = .ok (.iastore, 1) := by decide +kernel
theorem dX8_leavesNow_62 : decode cX8_leavesNow 62 = .ok (.aload_n 0, 1) := by decide +kernel
theorem dX8_leavesNow_63 : decode cX8_leavesNow 63 = .ok (.aload_n 0, 1) := by decide +kernel
theorem dX8_leavesNow_64 : decode cX8_leavesNow 64 = .ok (.getfield 53, 3) := by decide +kernel
theorem dX8_leavesNow_67 : decode cX8_leavesNow 67 = .ok (.iload 4, 2) := by decide +kernel
theorem dX8_leavesNow_69 : decode cX8_leavesNow 69 = .ok (.iaload, 1) := by decide +kernel
theorem dX8_leavesNow_70 : decode cX8_leavesNow 70 = .ok (.invokevirtual 171, 3) := by decide +kernel
theorem dX8_leavesNow_73 : decode cX8_leavesNow 73 = .ok (.iinc 4 1, 3) := by decide +kernel
theorem dX8_leavesNow_76 : decode cX8_leavesNow 76 = .ok (.goto (-46), 3) := by decide +kernel
theorem dX8_leavesNow_79 : decode cX8_leavesNow 79 = .ok (.iload_n 3, 1) := by decide +kernel
theorem dX8_leavesNow_80 : decode cX8_leavesNow 80 = .ok (.ireturn, 1) := by decide +kernel
theorem dX8_goes_0 : decode cX8_goes 0 = .ok (.aload_n 0, 1) := by decide +kernel
theorem dX8_goes_1 : decode cX8_goes 1 = .ok (.iload_n 1, 1) := by decide +kernel
theorem dX8_goes_2 : decode cX8_goes 2 = .ok (.invokevirtual 131, 3) := by decide +kernel
theorem dX8_goes_5 : decode cX8_goes 5 = .ok (.ifCond .ne 10, 3) := by decide +kernel
theorem dX8_goes_8 : decode cX8_goes 8 = .ok (.aload_n 0, 1) := by decide +kernel
theorem dX8_goes_9 : decode cX8_goes 9 = .ok (.ldc 125, 2) := by decide +kernel
theorem dX8_goes_11 : decode cX8_goes 11 = .ok (.invokevirtual 126, 3) := by decide +kernel
theorem dX8_goes_14 : decode cX8_goes 14 = .ok (.ireturn, 1) := by decide +kernel
theorem dX8_goes_15 : decode cX8_goes 15 = .ok (.aload_n 0, 1) := by decide +kernel
theorem dX8_goes_16 : decode cX8_goes 16 = .ok (.iload_n 1, 1) := by decide +kernel
theorem dX8_goes_17 : decode cX8_goes 17 = .ok (.invokevirtual 146, 3) := by decide +kernel
theorem dX8_goes_20 : decode cX8_goes 20 = .ok (.istore_n 2, 1) := by decide +kernel
theorem dX8_goes_21 : decode cX8_goes 21 = .ok (.iload_n 2, 1) := by decide +kernel
theorem dX8_goes_22 : decode cX8_goes 22 = .ok (.ifCond .ge 12, 3) := by decide +kernel
theorem dX8_goes_25 : decode cX8_goes 25 = .ok (.aload_n 0, 1) := by decide +kernel
theorem dX8_goes_26 : decode cX8_goes 26 = .ok (.ldc 160, 2) := by decide +kernel
theorem dX8_goes_28 : decode cX8_goes 28 = .ok (.invokevirtual 126, 3) := by decide +kernel
theorem dX8_goes_31 : decode cX8_goes 31 = .ok (.goto 8, 3) := by decide +kernel
theorem dX8_goes_34 : decode cX8_goes 34 = .ok (.aload_n 0, 1) := by decide +kernel
theorem dX8_goes_35 : decode cX8_goes 35 = .ok (.iload_n 2, 1) := by decide +kernel
theorem dX8_goes_36 : decode cX8_goes 36 = .ok (.invokevirtual 175, 3) := by decide +kernel
theorem dX8_goes_39 : decode cX8_goes 39 = .ok (.ireturn, 1) := by decide +kernel
theorem dX8_fault_0 : decode cX8_fault 0 = .ok (.aload_n 0, 1) := by decide +kernel
theorem dX8_fault_1 : decode cX8_fault 1 = .ok (.iload_n 1, 1) := by decide +kernel
theorem dX8_fault_2 : decode cX8_fault 2 = .ok (.invokevirtual 149, 3) := by decide +kernel
theorem dX8_fault_5 : decode cX8_fault 5 = .ok (.ifCond .ne 10, 3) := by decide +kernel
theorem dX8_fault_8 : decode cX8_fault 8 = .ok (.aload_n 0, 1) := by decide +kernel
theorem dX8_fault_9 : decode cX8_fault 9 = .ok (.ldc 125, 2) := by decide +kernel
theorem dX8_fault_11 : decode cX8_fault 11 = .ok (.invokevirtual 126, 3) := by decide +kernel
theorem dX8_fault_14 : decode cX8_fault 14 = .ok (.ireturn, 1) := by decide +kernel
theorem dX8_fault_15 : decode cX8_fault 15 = .ok (.iconst 0, 1) := by decide +kernel
theorem dX8_fault_16 : decode cX8_fault 16 = .ok (.istore_n 2, 1) := by decide +kernel
theorem dX8_fault_17 : decode cX8_fault 17 = .ok (.iload_n 2, 1) := by decide +kernel
theorem dX8_fault_18 : decode cX8_fault 18 = .ok (.aload_n 0, 1) := by decide +kernel
theorem dX8_fault_19 : decode cX8_fault 19 = .ok (.getfield 50, 3) := by decide +kernel
theorem dX8_fault_22 : decode cX8_fault 22 = .ok (.iload_n 1, 1) := by decide +kernel
theorem dX8_fault_23 : decode cX8_fault 23 = .ok (.iaload, 1) := by decide +kernel
theorem dX8_fault_24 : decode cX8_fault 24 = .ok (.if_icmp .ge 37, 3) := by decide +kernel
theorem dX8_fault_27 : decode cX8_fault 27 = .ok (.aload_n 0, 1) := by decide +kernel
theorem dX8_fault_28 : decode cX8_fault 28 = .ok (.aload_n 0, 1) := by decide +kernel
theorem dX8_fault_29 : decode cX8_fault 29 = .ok (.getfield 53, 3) := by decide +kernel
theorem dX8_fault_32 : decode cX8_fault 32 = .ok (.bipush 6, 2) := by decide +kernel
theorem dX8_fault_34 : decode cX8_fault 34 = .ok (.iload_n 1, 1) := by decide +kernel
theorem dX8_fault_35 : decode cX8_fault 35 = .ok (.imul, 1) := by decide +kernel
theorem dX8_fault_36 : decode cX8_fault 36 = .ok (.iload_n 2, 1) := by decide +kernel
theorem dX8_fault_37 : decode cX8_fault 37 = .ok (.iadd, 1) := by decide +kernel
theorem dX8_fault_38 : decode cX8_fault 38 = .ok (.iaload, 1) := by decide +kernel
theorem dX8_fault_39 : decode cX8_fault 39 = .ok (.iload_n 1, 1) := by decide +kernel
theorem dX8_fault_40 : decode cX8_fault 40 = .ok (.iload_n 2, 1) := by decide +kernel
theorem dX8_fault_41 : decode cX8_fault 41 = .ok (.aload_n 0, 1) := by decide +kernel
theorem dX8_fault_42 : decode cX8_fault 42 = .ok (.iload_n 1, 1) := by decide +kernel
theorem dX8_fault_43 : decode cX8_fault 43 = .ok (.iload_n 2, 1) := by decide +kernel
theorem dX8_fault_44 : decode cX8_fault 44 = .ok (.invokevirtual 152, 3) := by decide +kernel
theorem dX8_fault_47 : decode cX8_fault 47 = .ok (.invokevirtual 156, 3) := by decide +kernel
theorem dX8_fault_50 : decode cX8_fault 50 = .ok (.ifCond .eq 5, 3) := by decide +kernel
theorem dX8_fault_53 : decode cX8_fault 53 = .ok (.iload_n 2, 1) := by decide +kernel
theorem dX8_fault_54 : decode cX8_fault 54 = .ok (.ireturn, 1) := by decide +kernel
theorem dX8_fault_55 : decode cX8_fault 55 = .ok (.iinc 2 1, 3) := by decide +kernel
theorem dX8_fault_58 : decode cX8_fault 58 = .ok (.goto (-41), 3) := by decide +kernel
theorem dX8_fault_61 : decode cX8_fault 61 = .ok (.iconst (-1), 1) := by decide +kernel
theorem dX8_fault_62 : decode cX8_fault 62 = .ok (.ireturn, 1) := by decide +kernel
theorem dX8_movesMaybe_0 : decode cX8_movesMaybe 0 = .ok (.aload_n 0, 1) := by decide +kernel
theorem dX8_movesMaybe_1 : decode cX8_movesMaybe 1 = .ok (.getfield 35, 3) := by decide +kernel
theorem dX8_movesMaybe_4 : decode cX8_movesMaybe 4 = .ok (.iload_n 1, 1) := by decide +kernel
theorem dX8_movesMaybe_5 : decode cX8_movesMaybe 5 = .ok (.iaload, 1) := by decide +kernel
theorem dX8_movesMaybe_6 : decode cX8_movesMaybe 6 = .ok (.aload_n 0, 1) := by decide +kernel
theorem dX8_movesMaybe_7 : decode cX8_movesMaybe 7 = .ok (.getfield 38, 3) := by decide +kernel
theorem dX8_movesMaybe_10 : decode cX8_movesMaybe 10 = .ok (.iload_n 2, 1) := by decide +kernel
theorem dX8_movesMaybe_11 : decode cX8_movesMaybe 11 = .ok (.iaload, 1) := by decide +kernel
theorem dX8_movesMaybe_12 : decode cX8_movesMaybe 12 = .ok (.if_icmp .ge 7, 3) := by decide +kernel
theorem dX8_movesMaybe_15 : decode cX8_movesMaybe 15 = .ok (.iconst 1, 1) := by decide +kernel
theorem dX8_movesMaybe_16 : decode cX8_movesMaybe 16 = .ok (.goto 4, 3) := by decide +kernel
theorem dX8_movesMaybe_19 : decode cX8_movesMaybe 19 = .ok (.iconst 0, 1) := by decide +kernel
theorem dX8_movesMaybe_20 : decode cX8_movesMaybe 20 = .ok (.ireturn, 1) := by decide +kernel
theorem dX8_pairs_0 : decode cX8_pairs 0 = .ok (.aload_n 0, 1) := by decide +kernel
theorem dX8_pairs_1 : decode cX8_pairs 1 = .ok (.iload_n 1, 1) := by decide +kernel
theorem dX8_pairs_2 : decode cX8_pairs 2 = .ok (.invokevirtual 149, 3) := by decide +kernel
theorem dX8_pairs_5 : decode cX8_pairs 5 = .ok (.ifCond .ne 10, 3) := by decide +kernel
theorem dX8_pairs_8 : decode cX8_pairs 8 = .ok (.aload_n 0, 1) := by decide +kernel
theorem dX8_pairs_9 : decode cX8_pairs 9 = .ok (.ldc 125, 2) := by decide +kernel
theorem dX8_pairs_11 : decode cX8_pairs 11 = .ok (.invokevirtual 126, 3) := by decide +kernel
theorem dX8_pairs_14 : decode cX8_pairs 14 = .ok (.ireturn, 1) := by decide +kernel
theorem dX8_pairs_15 : decode cX8_pairs 15 = .ok (.iconst 0, 1) := by decide +kernel
theorem dX8_pairs_16 : decode cX8_pairs 16 = .ok (.istore_n 3, 1) := by decide +kernel
theorem dX8_pairs_17 : decode cX8_pairs 17 = .ok (.iconst 0, 1) := by decide +kernel
theorem dX8_pairs_18 : decode cX8_pairs 18 = .ok (.istore 4, 2) := by decide +kernel
theorem dX8_pairs_20 : decode cX8_pairs 20 = .ok (.iload 4, 2) := by decide +kernel
theorem dX8_pairs_22 : decode cX8_pairs 22 = .ok (.aload_n 0, 1) := by decide +kernel
theorem dX8_pairs_23 : decode cX8_pairs 23 = .ok (.getfield 50, 3) := by decide +kernel
theorem dX8_pairs_26 : decode cX8_pairs 26 = .ok (.iload_n 1, 1) := by decide +kernel
theorem dX8_pairs_27 : decode cX8_pairs 27 = .ok (.iaload, 1) := by decide +kernel
theorem dX8_pairs_28 : decode cX8_pairs 28 = .ok (.if_icmp .ge 105, 3) := by decide +kernel
theorem dX8_pairs_31 : decode cX8_pairs 31 = .ok (.iconst 0, 1) := by decide +kernel
theorem dX8_pairs_32 : decode cX8_pairs 32 = .ok (.istore 5, 2) := by decide +kernel
theorem dX8_pairs_34 : decode cX8_pairs 34 = .ok (.iload 5, 2) := by decide +kernel
theorem dX8_pairs_36 : decode cX8_pairs 36 = .ok (.iload 4, 2) := by decide +kernel
theorem dX8_pairs_38 : decode cX8_pairs 38 = .ok (.if_icmp .ge 89, 3) := by decide +kernel
theorem dX8_pairs_41 : decode cX8_pairs 41 = .ok (.aload_n 0, 1) := by decide +kernel
theorem dX8_pairs_42 : decode cX8_pairs 42 = .ok (.getfield 53, 3) := by decide +kernel
theorem dX8_pairs_45 : decode cX8_pairs 45 = .ok (.bipush 6, 2) := by decide +kernel
theorem dX8_pairs_47 : decode cX8_pairs 47 = .ok (.iload_n 1, 1) := by decide +kernel
theorem dX8_pairs_48 : decode cX8_pairs 48 = .ok (.imul, 1) := by decide +kernel
theorem dX8_pairs_49 : decode cX8_pairs 49 = .ok (.iload 5, 2) := by decide +kernel
theorem dX8_pairs_51 : decode cX8_pairs 51 = .ok (.iadd, 1) := by decide +kernel
theorem dX8_pairs_52 : decode cX8_pairs 52 = .ok (.iaload, 1) := by decide +kernel
theorem dX8_pairs_53 : decode cX8_pairs 53 = .ok (.istore 6, 2) := by decide +kernel
theorem dX8_pairs_55 : decode cX8_pairs 55 = .ok (.aload_n 0, 1) := by decide +kernel
theorem dX8_pairs_56 : decode cX8_pairs 56 = .ok (.getfield 53, 3) := by decide +kernel
theorem dX8_pairs_59 : decode cX8_pairs 59 = .ok (.bipush 6, 2) := by decide +kernel
theorem dX8_pairs_61 : decode cX8_pairs 61 = .ok (.iload_n 1, 1) := by decide +kernel
theorem dX8_pairs_62 : decode cX8_pairs 62 = .ok (.imul, 1) := by decide +kernel
theorem dX8_pairs_63 : decode cX8_pairs 63 = .ok (.iload 4, 2) := by decide +kernel
theorem dX8_pairs_65 : decode cX8_pairs 65 = .ok (.iadd, 1) := by decide +kernel
theorem dX8_pairs_66 : decode cX8_pairs 66 = .ok (.iaload, 1) := by decide +kernel
theorem dX8_pairs_67 : decode cX8_pairs 67 = .ok (.istore 7, 2) := by decide +kernel
theorem dX8_pairs_69 : decode cX8_pairs 69 = .ok (.iload_n 2, 1) := by decide +kernel
theorem dX8_pairs_70 : decode cX8_pairs 70 = .ok (.ifCond .eq 28, 3) := by decide +kernel
theorem dX8_pairs_73 : decode cX8_pairs 73 = .ok (.aload_n 0, 1) := by decide +kernel
theorem dX8_pairs_74 : decode cX8_pairs 74 = .ok (.getfield 38, 3) := by decide +kernel
theorem dX8_pairs_77 : decode cX8_pairs 77 = .ok (.iload 6, 2) := by decide +kernel
theorem dX8_pairs_79 : decode cX8_pairs 79 = .ok (.iaload, 1) := by decide +kernel
theorem dX8_pairs_80 : decode cX8_pairs 80 = .ok (.aload_n 0, 1) := by decide +kernel
theorem dX8_pairs_81 : decode cX8_pairs 81 = .ok (.getfield 35, 3) := by decide +kernel
theorem dX8_pairs_84 : decode cX8_pairs 84 = .ok (.iload 7, 2) := by decide +kernel
theorem dX8_pairs_86 : decode cX8_pairs 86 = .ok (.iaload, 1) := by decide +kernel
theorem dX8_pairs_87 : decode cX8_pairs 87 = .ok (.if_icmp .ge 7, 3) := by decide +kernel
theorem dX8_pairs_90 : decode cX8_pairs 90 = .ok (.iconst 1, 1) := by decide +kernel
theorem dX8_pairs_91 : decode cX8_pairs 91 = .ok (.goto 15, 3) := by decide +kernel
theorem dX8_pairs_94 : decode cX8_pairs 94 = .ok (.iconst 0, 1) := by decide +kernel
theorem dX8_pairs_95 : decode cX8_pairs 95 = .ok (.goto 11, 3) := by decide +kernel
theorem dX8_pairs_98 : decode cX8_pairs 98 = .ok (.aload_n 0, 1) := by decide +kernel
theorem dX8_pairs_99 : decode cX8_pairs 99 = .ok (.iload 6, 2) := by decide +kernel
theorem dX8_pairs_101 : decode cX8_pairs 101 = .ok (.iload 7, 2) := by decide +kernel
theorem dX8_pairs_103 : decode cX8_pairs 103 = .ok (.invokevirtual 178, 3) := by decide +kernel
theorem dX8_pairs_106 : decode cX8_pairs 106 = .ok (.istore 8, 2) := by decide +kernel
theorem dX8_pairs_108 : decode cX8_pairs 108 = .ok (.iload_n 3, 1) := by decide +kernel
theorem dX8_pairs_109 : decode cX8_pairs 109 = .ok (.iload 8, 2) := by decide +kernel
theorem dX8_pairs_111 : decode cX8_pairs 111 = .ok (.ifCond .eq 7, 3) := by decide +kernel
theorem dX8_pairs_114 : decode cX8_pairs 114 = .ok (.iconst 1, 1) := by decide +kernel
theorem dX8_pairs_115 : decode cX8_pairs 115 = .ok (.goto 4, 3) := by decide +kernel
theorem dX8_pairs_118 : decode cX8_pairs 118 = .ok (.iconst 0, 1) := by decide +kernel
theorem dX8_pairs_119 : decode cX8_pairs 119 = .ok (.iadd, 1) := by decide +kernel
theorem dX8_pairs_120 : decode cX8_pairs 120 = .ok (.istore_n 3, 1) := by decide +kernel
theorem dX8_pairs_121 : decode cX8_pairs 121 = .ok (.iinc 5 1, 3) := by decide +kernel
theorem dX8_pairs_124 : decode cX8_pairs 124 = .ok (.goto (-90), 3) := by decide +kernel
theorem dX8_pairs_127 : decode cX8_pairs 127 = .ok (.iinc 4 1, 3) := by decide +kernel
theorem dX8_pairs_130 : decode cX8_pairs 130 = .ok (.goto (-110), 3) := by decide +kernel
theorem dX8_pairs_133 : decode cX8_pairs 133 = .ok (.iload_n 3, 1) := by decide +kernel
theorem dX8_pairs_134 : decode cX8_pairs 134 = .ok (.ireturn, 1) := by decide +kernel
theorem dX8_offer_0 : decode cX8_offer 0 = .ok (.aload_n 0, 1) := by decide +kernel
theorem dX8_offer_1 : decode cX8_offer 1 = .ok (.iload_n 1, 1) := by decide +kernel
theorem dX8_offer_2 : decode cX8_offer 2 = .ok (.invokevirtual 131, 3) := by decide +kernel
theorem dX8_offer_5 : decode cX8_offer 5 = .ok (.ifCond .ne 10, 3) := by decide +kernel
theorem dX8_offer_8 : decode cX8_offer 8 = .ok (.aload_n 0, 1) := by decide +kernel
theorem dX8_offer_9 : decode cX8_offer 9 = .ok (.ldc 125, 2) := by decide +kernel
theorem dX8_offer_11 : decode cX8_offer 11 = .ok (.invokevirtual 126, 3) := by decide +kernel
theorem dX8_offer_14 : decode cX8_offer 14 = .ok (.ireturn, 1) := by decide +kernel
theorem dX8_offer_15 : decode cX8_offer 15 = .ok (.aload_n 0, 1) := by decide +kernel
theorem dX8_offer_16 : decode cX8_offer 16 = .ok (.iload_n 1, 1) := by decide +kernel
theorem dX8_offer_17 : decode cX8_offer 17 = .ok (.invokevirtual 146, 3) := by decide +kernel
theorem dX8_offer_20 : decode cX8_offer 20 = .ok (.ifCond .lt 10, 3) := by decide +kernel
theorem dX8_offer_23 : decode cX8_offer 23 = .ok (.aload_n 0, 1) := by decide +kernel
theorem dX8_offer_24 : decode cX8_offer 24 = .ok (.ldc 160, 2) := by decide +kernel
theorem dX8_offer_26 : decode cX8_offer 26 = .ok (.invokevirtual 126, 3) := by decide +kernel
theorem dX8_offer_29 : decode cX8_offer 29 = .ok (.ireturn, 1) := by decide +kernel
theorem dX8_offer_30 : decode cX8_offer 30 = .ok (.iconst (-1), 1) := by decide +kernel
theorem dX8_offer_31 : decode cX8_offer 31 = .ok (.istore_n 2, 1) := by decide +kernel
theorem dX8_offer_32 : decode cX8_offer 32 = .ok (.iconst 0, 1) := by decide +kernel
theorem dX8_offer_33 : decode cX8_offer 33 = .ok (.istore_n 3, 1) := by decide +kernel
theorem dX8_offer_34 : decode cX8_offer 34 = .ok (.iconst 0, 1) := by decide +kernel
theorem dX8_offer_35 : decode cX8_offer 35 = .ok (.istore 4, 2) := by decide +kernel
theorem dX8_offer_37 : decode cX8_offer 37 = .ok (.iload 4, 2) := by decide +kernel
theorem dX8_offer_39 : decode cX8_offer 39 = .ok (.aload_n 0, 1) := by decide +kernel
theorem dX8_offer_40 : decode cX8_offer 40 = .ok (.getfield 115, 3) := by decide +kernel
theorem dX8_offer_43 : decode cX8_offer 43 = .ok (.if_icmp .ge 90, 3) := by decide +kernel
theorem dX8_offer_46 : decode cX8_offer 46 = .ok (.iconst 0, 1) := by decide +kernel
theorem dX8_offer_47 : decode cX8_offer 47 = .ok (.istore 5, 2) := by decide +kernel
theorem dX8_offer_49 : decode cX8_offer 49 = .ok (.iconst 0, 1) := by decide +kernel
theorem dX8_offer_50 : decode cX8_offer 50 = .ok (.istore 6, 2) := by decide +kernel
theorem dX8_offer_52 : decode cX8_offer 52 = .ok (.iload 6, 2) := by decide +kernel
theorem dX8_offer_54 : decode cX8_offer 54 = .ok (.aload_n 0, 1) := by decide +kernel
theorem dX8_offer_55 : decode cX8_offer 55 = .ok (.getfield 50, 3) := by decide +kernel
theorem dX8_offer_58 : decode cX8_offer 58 = .ok (.iload 4, 2) := by decide +kernel
theorem dX8_offer_60 : decode cX8_offer 60 = .ok (.iaload, 1) := by decide +kernel
theorem dX8_offer_61 : decode cX8_offer 61 = .ok (.if_icmp .ge 40, 3) := by decide +kernel
theorem dX8_offer_64 : decode cX8_offer 64 = .ok (.iload 5, 2) := by decide +kernel
theorem dX8_offer_66 : decode cX8_offer 66 = .ok (.aload_n 0, 1) := by decide +kernel
theorem dX8_offer_67 : decode cX8_offer 67 = .ok (.aload_n 0, 1) := by decide +kernel
theorem dX8_offer_68 : decode cX8_offer 68 = .ok (.getfield 53, 3) := by decide +kernel
theorem dX8_offer_71 : decode cX8_offer 71 = .ok (.bipush 6, 2) := by decide +kernel
theorem dX8_offer_73 : decode cX8_offer 73 = .ok (.iload 4, 2) := by decide +kernel
theorem dX8_offer_75 : decode cX8_offer 75 = .ok (.imul, 1) := by decide +kernel
theorem dX8_offer_76 : decode cX8_offer 76 = .ok (.iload 6, 2) := by decide +kernel
theorem dX8_offer_78 : decode cX8_offer 78 = .ok (.iadd, 1) := by decide +kernel
theorem dX8_offer_79 : decode cX8_offer 79 = .ok (.iaload, 1) := by decide +kernel
theorem dX8_offer_80 : decode cX8_offer 80 = .ok (.iload_n 1, 1) := by decide +kernel
theorem dX8_offer_81 : decode cX8_offer 81 = .ok (.invokevirtual 178, 3) := by decide +kernel
theorem dX8_offer_84 : decode cX8_offer 84 = .ok (.ifCond .eq 7, 3) := by decide +kernel
theorem dX8_offer_87 : decode cX8_offer 87 = .ok (.iconst 1, 1) := by decide +kernel
theorem dX8_offer_88 : decode cX8_offer 88 = .ok (.goto 4, 3) := by decide +kernel
theorem dX8_offer_91 : decode cX8_offer 91 = .ok (.iconst 0, 1) := by decide +kernel
theorem dX8_offer_92 : decode cX8_offer 92 = .ok (.iadd, 1) := by decide +kernel
theorem dX8_offer_93 : decode cX8_offer 93 = .ok (.istore 5, 2) := by decide +kernel
theorem dX8_offer_95 : decode cX8_offer 95 = .ok (.iinc 6 1, 3) := by decide +kernel
theorem dX8_offer_98 : decode cX8_offer 98 = .ok (.goto (-46), 3) := by decide +kernel
theorem dX8_offer_101 : decode cX8_offer 101 = .ok (.aload_n 0, 1) := by decide +kernel
theorem dX8_offer_102 : decode cX8_offer 102 = .ok (.iload_n 1, 1) := by decide +kernel
theorem dX8_offer_103 : decode cX8_offer 103 = .ok (.iload 4, 2) := by decide +kernel
theorem dX8_offer_105 : decode cX8_offer 105 = .ok (.invokevirtual 161, 3) := by decide +kernel
theorem dX8_offer_108 : decode cX8_offer 108 = .ok (.ifCond .ne 19, 3) := by decide +kernel
theorem dX8_offer_111 : decode cX8_offer 111 = .ok (.iload_n 2, 1) := by decide +kernel
theorem dX8_offer_112 : decode cX8_offer 112 = .ok (.ifCond .lt 9, 3) := by decide +kernel
theorem dX8_offer_115 : decode cX8_offer 115 = .ok (.iload 5, 2) := by decide +kernel
theorem dX8_offer_117 : decode cX8_offer 117 = .ok (.iload_n 3, 1) := by decide +kernel
theorem dX8_offer_118 : decode cX8_offer 118 = .ok (.if_icmp .ge 9, 3) := by decide +kernel
theorem dX8_offer_121 : decode cX8_offer 121 = .ok (.iload 4, 2) := by decide +kernel
theorem dX8_offer_123 : decode cX8_offer 123 = .ok (.istore_n 2, 1) := by decide +kernel
theorem dX8_offer_124 : decode cX8_offer 124 = .ok (.iload 5, 2) := by decide +kernel
theorem dX8_offer_126 : decode cX8_offer 126 = .ok (.istore_n 3, 1) := by decide +kernel
theorem dX8_offer_127 : decode cX8_offer 127 = .ok (.iinc 4 1, 3) := by decide +kernel
theorem dX8_offer_130 : decode cX8_offer 130 = .ok (.goto (-93), 3) := by decide +kernel
theorem dX8_offer_133 : decode cX8_offer 133 = .ok (.iload_n 2, 1) := by decide +kernel
theorem dX8_offer_134 : decode cX8_offer 134 = .ok (.ifCond .ge 12, 3) := by decide +kernel
theorem dX8_offer_137 : decode cX8_offer 137 = .ok (.aload_n 0, 1) := by decide +kernel
theorem dX8_offer_138 : decode cX8_offer 138 = .ok (.ldc 181, 2) := by decide +kernel
theorem dX8_offer_140 : decode cX8_offer 140 = .ok (.invokevirtual 126, 3) := by decide +kernel
theorem dX8_offer_143 : decode cX8_offer 143 = .ok (.goto 4, 3) := by decide +kernel
theorem dX8_offer_146 : decode cX8_offer 146 = .ok (.iload_n 2, 1) := by decide +kernel
theorem dX8_offer_147 : decode cX8_offer 147 = .ok (.ireturn, 1) := by decide +kernel
theorem dX8_pairsWith_0 : decode cX8_pairsWith 0 = .ok (.aload_n 0, 1) := by decide +kernel
theorem dX8_pairsWith_1 : decode cX8_pairsWith 1 = .ok (.getfield 88, 3) := by decide +kernel
theorem dX8_pairsWith_4 : decode cX8_pairsWith 4 = .ok (.iload_n 1, 1) := by decide +kernel
theorem dX8_pairsWith_5 : decode cX8_pairsWith 5 = .ok (.iaload, 1) := by decide +kernel
theorem dX8_pairsWith_6 : decode cX8_pairsWith 6 = .ok (.istore_n 3, 1) := by decide +kernel
theorem dX8_pairsWith_7 : decode cX8_pairsWith 7 = .ok (.aload_n 0, 1) := by decide +kernel
theorem dX8_pairsWith_8 : decode cX8_pairsWith 8 = .ok (.getfield 91, 3) := by decide +kernel
theorem dX8_pairsWith_11 : decode cX8_pairsWith 11 = .ok (.iload_n 1, 1) := by decide +kernel
theorem dX8_pairsWith_12 : decode cX8_pairsWith 12 = .ok (.iaload, 1) := by decide +kernel
theorem dX8_pairsWith_13 : decode cX8_pairsWith 13 = .ok (.istore 4, 2) := by decide +kernel
theorem dX8_pairsWith_15 : decode cX8_pairsWith 15 = .ok (.iload 4, 2) := by decide +kernel
theorem dX8_pairsWith_17 : decode cX8_pairsWith 17 = .ok (.ifCond .ne 7, 3) := by decide +kernel
theorem dX8_pairsWith_20 : decode cX8_pairsWith 20 = .ok (.iconst (-1), 1) := by decide +kernel
theorem dX8_pairsWith_21 : decode cX8_pairsWith 21 = .ok (.goto 16, 3) := by decide +kernel
theorem dX8_pairsWith_24 : decode cX8_pairsWith 24 = .ok (.aload_n 0, 1) := by decide +kernel
theorem dX8_pairsWith_25 : decode cX8_pairsWith 25 = .ok (.getfield 82, 3) := by decide +kernel
theorem dX8_pairsWith_28 : decode cX8_pairsWith 28 = .ok (.aload_n 0, 1) := by decide +kernel
theorem dX8_pairsWith_29 : decode cX8_pairsWith 29 = .ok (.getfield 85, 3) := by decide +kernel
theorem dX8_pairsWith_32 : decode cX8_pairsWith 32 = .ok (.iload_n 1, 1) := by decide +kernel
theorem dX8_pairsWith_33 : decode cX8_pairsWith 33 = .ok (.iconst 1, 1) := by decide +kernel
theorem dX8_pairsWith_34 : decode cX8_pairsWith 34 = .ok (.isub, 1) := by decide +kernel
theorem dX8_pairsWith_35 : decode cX8_pairsWith 35 = .ok (.iaload, 1) := by decide +kernel
theorem dX8_pairsWith_36 : decode cX8_pairsWith 36 = .ok (.iaload, 1) := by decide +kernel
theorem dX8_pairsWith_37 : decode cX8_pairsWith 37 = .ok (.istore 5, 2) := by decide +kernel
theorem dX8_pairsWith_39 : decode cX8_pairsWith 39 = .ok (.aload_n 0, 1) := by decide +kernel
theorem dX8_pairsWith_40 : decode cX8_pairsWith 40 = .ok (.aload_n 0, 1) := by decide +kernel
theorem dX8_pairsWith_41 : decode cX8_pairsWith 41 = .ok (.getfield 82, 3) := by decide +kernel
theorem dX8_pairsWith_44 : decode cX8_pairsWith 44 = .ok (.iload_n 2, 1) := by decide +kernel
theorem dX8_pairsWith_45 : decode cX8_pairsWith 45 = .ok (.iaload, 1) := by decide +kernel
theorem dX8_pairsWith_46 : decode cX8_pairsWith 46 = .ok (.iload_n 3, 1) := by decide +kernel
theorem dX8_pairsWith_47 : decode cX8_pairsWith 47 = .ok (.iload 4, 2) := by decide +kernel
theorem dX8_pairsWith_49 : decode cX8_pairsWith 49 = .ok (.iload 5, 2) := by decide +kernel
theorem dX8_pairsWith_51 : decode cX8_pairsWith 51 = .ok (.invokevirtual 156, 3) := by decide +kernel
theorem dX8_pairsWith_54 : decode cX8_pairsWith 54 = .ok (.ifCond .eq 5, 3) := by decide +kernel
theorem dX8_pairsWith_57 : decode cX8_pairsWith 57 = .ok (.iconst (-1), 1) := by decide +kernel
theorem dX8_pairsWith_58 : decode cX8_pairsWith 58 = .ok (.ireturn, 1) := by decide +kernel
theorem dX8_pairsWith_59 : decode cX8_pairsWith 59 = .ok (.iconst 0, 1) := by decide +kernel
theorem dX8_pairsWith_60 : decode cX8_pairsWith 60 = .ok (.istore 6, 2) := by decide +kernel
theorem dX8_pairsWith_62 : decode cX8_pairsWith 62 = .ok (.iconst 1, 1) := by decide +kernel
theorem dX8_pairsWith_63 : decode cX8_pairsWith 63 = .ok (.istore 7, 2) := by decide +kernel
theorem dX8_pairsWith_65 : decode cX8_pairsWith 65 = .ok (.iload 7, 2) := by decide +kernel
theorem dX8_pairsWith_67 : decode cX8_pairsWith 67 = .ok (.iload 4, 2) := by decide +kernel
theorem dX8_pairsWith_69 : decode cX8_pairsWith 69 = .ok (.if_icmp .gt 46, 3) := by decide +kernel
theorem dX8_pairsWith_72 : decode cX8_pairsWith 72 = .ok (.iload 6, 2) := by decide +kernel
theorem dX8_pairsWith_74 : decode cX8_pairsWith 74 = .ok (.aload_n 0, 1) := by decide +kernel
theorem dX8_pairsWith_75 : decode cX8_pairsWith 75 = .ok (.aload_n 0, 1) := by decide +kernel
theorem dX8_pairsWith_76 : decode cX8_pairsWith 76 = .ok (.getfield 82, 3) := by decide +kernel
theorem dX8_pairsWith_79 : decode cX8_pairsWith 79 = .ok (.aload_n 0, 1) := by decide +kernel
theorem dX8_pairsWith_80 : decode cX8_pairsWith 80 = .ok (.getfield 85, 3) := by decide +kernel
theorem dX8_pairsWith_83 : decode cX8_pairsWith 83 = .ok (.iload_n 1, 1) := by decide +kernel
theorem dX8_pairsWith_84 : decode cX8_pairsWith 84 = .ok (.iload 7, 2) := by decide +kernel
theorem dX8_pairsWith_86 : decode cX8_pairsWith 86 = .ok (.isub, 1) := by decide +kernel
theorem dX8_pairsWith_87 : decode cX8_pairsWith 87 = .ok (.iaload, 1) := by decide +kernel
theorem dX8_pairsWith_88 : decode cX8_pairsWith 88 = .ok (.iaload, 1) := by decide +kernel
theorem dX8_pairsWith_89 : decode cX8_pairsWith 89 = .ok (.aload_n 0, 1) := by decide +kernel
theorem dX8_pairsWith_90 : decode cX8_pairsWith 90 = .ok (.getfield 82, 3) := by decide +kernel
theorem dX8_pairsWith_93 : decode cX8_pairsWith 93 = .ok (.iload_n 2, 1) := by decide +kernel
theorem dX8_pairsWith_94 : decode cX8_pairsWith 94 = .ok (.iaload, 1) := by decide +kernel
theorem dX8_pairsWith_95 : decode cX8_pairsWith 95 = .ok (.invokevirtual 178, 3) := by decide +kernel
theorem dX8_pairsWith_98 : decode cX8_pairsWith 98 = .ok (.ifCond .eq 7, 3) := by decide +kernel
theorem dX8_pairsWith_101 : decode cX8_pairsWith 101 = .ok (.iconst 1, 1) := by decide +kernel
theorem dX8_pairsWith_102 : decode cX8_pairsWith 102 = .ok (.goto 4, 3) := by decide +kernel
theorem dX8_pairsWith_105 : decode cX8_pairsWith 105 = .ok (.iconst 0, 1) := by decide +kernel
theorem dX8_pairsWith_106 : decode cX8_pairsWith 106 = .ok (.iadd, 1) := by decide +kernel
theorem dX8_pairsWith_107 : decode cX8_pairsWith 107 = .ok (.istore 6, 2) := by decide +kernel
theorem dX8_pairsWith_109 : decode cX8_pairsWith 109 = .ok (.iinc 7 1, 3) := by decide +kernel
theorem dX8_pairsWith_112 : decode cX8_pairsWith 112 = .ok (.goto (-47), 3) := by decide +kernel
theorem dX8_pairsWith_115 : decode cX8_pairsWith 115 = .ok (.iload 6, 2) := by decide +kernel
theorem dX8_pairsWith_117 : decode cX8_pairsWith 117 = .ok (.ireturn, 1) := by decide +kernel
theorem dX8_goesOn_0 : decode cX8_goesOn 0 = .ok (.aload_n 0, 1) := by decide +kernel
theorem dX8_goesOn_1 : decode cX8_goesOn 1 = .ok (.getfield 85, 3) := by decide +kernel
theorem dX8_goesOn_4 : decode cX8_goesOn 4 = .ok (.iload_n 1, 1) := by decide +kernel
theorem dX8_goesOn_5 : decode cX8_goesOn 5 = .ok (.iaload, 1) := by decide +kernel
theorem dX8_goesOn_6 : decode cX8_goesOn 6 = .ok (.istore_n 2, 1) := by decide +kernel
theorem dX8_goesOn_7 : decode cX8_goesOn 7 = .ok (.aload_n 0, 1) := by decide +kernel
theorem dX8_goesOn_8 : decode cX8_goesOn 8 = .ok (.getfield 94, 3) := by decide +kernel
theorem dX8_goesOn_11 : decode cX8_goesOn 11 = .ok (.iload_n 1, 1) := by decide +kernel
theorem dX8_goesOn_12 : decode cX8_goesOn 12 = .ok (.iconst 1, 1) := by decide +kernel
theorem dX8_goesOn_13 : decode cX8_goesOn 13 = .ok (.iadd, 1) := by decide +kernel
theorem dX8_goesOn_14 : decode cX8_goesOn 14 = .ok (.aload_n 0, 1) := by decide +kernel
theorem dX8_goesOn_15 : decode cX8_goesOn 15 = .ok (.getfield 94, 3) := by decide +kernel
theorem dX8_goesOn_18 : decode cX8_goesOn 18 = .ok (.iload_n 1, 1) := by decide +kernel
theorem dX8_goesOn_19 : decode cX8_goesOn 19 = .ok (.iaload, 1) := by decide +kernel
theorem dX8_goesOn_20 : decode cX8_goesOn 20 = .ok (.iastore, 1) := by decide +kernel
theorem dX8_goesOn_21 : decode cX8_goesOn 21 = .ok (.aload_n 0, 1) := by decide +kernel
theorem dX8_goesOn_22 : decode cX8_goesOn 22 = .ok (.getfield 97, 3) := by decide +kernel
theorem dX8_goesOn_25 : decode cX8_goesOn 25 = .ok (.iload_n 1, 1) := by decide +kernel
theorem dX8_goesOn_26 : decode cX8_goesOn 26 = .ok (.iconst 1, 1) := by decide +kernel
theorem dX8_goesOn_27 : decode cX8_goesOn 27 = .ok (.iadd, 1) := by decide +kernel
theorem dX8_goesOn_28 : decode cX8_goesOn 28 = .ok (.aload_n 0, 1) := by decide +kernel
theorem dX8_goesOn_29 : decode cX8_goesOn 29 = .ok (.getfield 97, 3) := by decide +kernel
theorem dX8_goesOn_32 : decode cX8_goesOn 32 = .ok (.iload_n 1, 1) := by decide +kernel
theorem dX8_goesOn_33 : decode cX8_goesOn 33 = .ok (.iaload, 1) := by decide +kernel
theorem dX8_goesOn_34 : decode cX8_goesOn 34 = .ok (.iastore, 1) := by decide +kernel
theorem dX8_goesOn_35 : decode cX8_goesOn 35 = .ok (.iload_n 2, 1) := by decide +kernel
theorem dX8_goesOn_36 : decode cX8_goesOn 36 = .ok (.bipush 6, 2) := by decide +kernel
theorem dX8_goesOn_38 : decode cX8_goesOn 38 = .ok (.if_icmp .ne 49, 3) := by decide +kernel
theorem dX8_goesOn_41 : decode cX8_goesOn 41 = .ok (.aload_n 0, 1) := by decide +kernel
theorem dX8_goesOn_42 : decode cX8_goesOn 42 = .ok (.getfield 88, 3) := by decide +kernel
theorem dX8_goesOn_45 : decode cX8_goesOn 45 = .ok (.iload_n 1, 1) := by decide +kernel
theorem dX8_goesOn_46 : decode cX8_goesOn 46 = .ok (.iconst 1, 1) := by decide +kernel
theorem dX8_goesOn_47 : decode cX8_goesOn 47 = .ok (.iadd, 1) := by decide +kernel
theorem dX8_goesOn_48 : decode cX8_goesOn 48 = .ok (.aload_n 0, 1) := by decide +kernel
theorem dX8_goesOn_49 : decode cX8_goesOn 49 = .ok (.getfield 88, 3) := by decide +kernel
theorem dX8_goesOn_52 : decode cX8_goesOn 52 = .ok (.iload_n 1, 1) := by decide +kernel
theorem dX8_goesOn_53 : decode cX8_goesOn 53 = .ok (.iaload, 1) := by decide +kernel
theorem dX8_goesOn_54 : decode cX8_goesOn 54 = .ok (.iconst 1, 1) := by decide +kernel
theorem dX8_goesOn_55 : decode cX8_goesOn 55 = .ok (.iadd, 1) := by decide +kernel
theorem dX8_goesOn_56 : decode cX8_goesOn 56 = .ok (.iastore, 1) := by decide +kernel
theorem dX8_goesOn_57 : decode cX8_goesOn 57 = .ok (.aload_n 0, 1) := by decide +kernel
theorem dX8_goesOn_58 : decode cX8_goesOn 58 = .ok (.getfield 91, 3) := by decide +kernel
theorem dX8_goesOn_61 : decode cX8_goesOn 61 = .ok (.iload_n 1, 1) := by decide +kernel
theorem dX8_goesOn_62 : decode cX8_goesOn 62 = .ok (.iconst 1, 1) := by decide +kernel
theorem dX8_goesOn_63 : decode cX8_goesOn 63 = .ok (.iadd, 1) := by decide +kernel
theorem dX8_goesOn_64 : decode cX8_goesOn 64 = .ok (.iconst 0, 1) := by decide +kernel
theorem dX8_goesOn_65 : decode cX8_goesOn 65 = .ok (.iastore, 1) := by decide +kernel
theorem dX8_goesOn_66 : decode cX8_goesOn 66 = .ok (.aload_n 0, 1) := by decide +kernel
theorem dX8_goesOn_67 : decode cX8_goesOn 67 = .ok (.getfield 88, 3) := by decide +kernel
theorem dX8_goesOn_70 : decode cX8_goesOn 70 = .ok (.iload_n 1, 1) := by decide +kernel
theorem dX8_goesOn_71 : decode cX8_goesOn 71 = .ok (.iaload, 1) := by decide +kernel
theorem dX8_goesOn_72 : decode cX8_goesOn 72 = .ok (.iconst 1, 1) := by decide +kernel
theorem dX8_goesOn_73 : decode cX8_goesOn 73 = .ok (.iadd, 1) := by decide +kernel
theorem dX8_goesOn_74 : decode cX8_goesOn 74 = .ok (.aload_n 0, 1) := by decide +kernel
theorem dX8_goesOn_75 : decode cX8_goesOn 75 = .ok (.getfield 115, 3) := by decide +kernel
theorem dX8_goesOn_78 : decode cX8_goesOn 78 = .ok (.if_icmp .ge 7, 3) := by decide +kernel
theorem dX8_goesOn_81 : decode cX8_goesOn 81 = .ok (.iconst 1, 1) := by decide +kernel
theorem dX8_goesOn_82 : decode cX8_goesOn 82 = .ok (.goto 4, 3) := by decide +kernel
theorem dX8_goesOn_85 : decode cX8_goesOn 85 = .ok (.iconst 0, 1) := by decide +kernel
theorem dX8_goesOn_86 : decode cX8_goesOn 86 = .ok (.ireturn, 1) := by decide +kernel
theorem dX8_goesOn_87 : decode cX8_goesOn 87 = .ok (.iload_n 2, 1) := by decide +kernel
theorem dX8_goesOn_88 : decode cX8_goesOn 88 = .ok (.aload_n 0, 1) := by decide +kernel
theorem dX8_goesOn_89 : decode cX8_goesOn 89 = .ok (.getfield 182, 3) := by decide +kernel
theorem dX8_goesOn_92 : decode cX8_goesOn 92 = .ok (.if_icmp .ge 24, 3) := by decide +kernel
theorem dX8_goesOn_95 : decode cX8_goesOn 95 = .ok (.aload_n 0, 1) := by decide +kernel
theorem dX8_goesOn_96 : decode cX8_goesOn 96 = .ok (.getfield 97, 3) := by decide +kernel
theorem dX8_goesOn_99 : decode cX8_goesOn 99 = .ok (.iload_n 1, 1) := by decide +kernel
theorem dX8_goesOn_100 : decode cX8_goesOn 100 = .ok (.iaload, 1) := by decide +kernel
theorem dX8_goesOn_101 : decode cX8_goesOn 101 = .ok (.iload_n 2, 1) := by decide +kernel
theorem dX8_goesOn_102 : decode cX8_goesOn 102 = .ok (.ishr, 1) := by decide +kernel
theorem dX8_goesOn_103 : decode cX8_goesOn 103 = .ok (.iconst 1, 1) := by decide +kernel
theorem dX8_goesOn_104 : decode cX8_goesOn 104 = .ok (.iand, 1) := by decide +kernel
theorem dX8_goesOn_105 : decode cX8_goesOn 105 = .ok (.iconst 1, 1) := by decide +kernel
theorem dX8_goesOn_106 : decode cX8_goesOn 106 = .ok (.if_icmp .eq 10, 3) := by decide +kernel
theorem dX8_goesOn_109 : decode cX8_goesOn 109 = .ok (.aload_n 0, 1) := by decide +kernel
theorem dX8_goesOn_110 : decode cX8_goesOn 110 = .ok (.getfield 115, 3) := by decide +kernel
theorem dX8_goesOn_113 : decode cX8_goesOn 113 = .ok (.ifCond .ne 5, 3) := by decide +kernel
theorem dX8_goesOn_116 : decode cX8_goesOn 116 = .ok (.iconst 0, 1) := by decide +kernel
theorem dX8_goesOn_117 : decode cX8_goesOn 117 = .ok (.ireturn, 1) := by decide +kernel
theorem dX8_goesOn_118 : decode cX8_goesOn 118 = .ok (.aload_n 0, 1) := by decide +kernel
theorem dX8_goesOn_119 : decode cX8_goesOn 119 = .ok (.iload_n 1, 1) := by decide +kernel
theorem dX8_goesOn_120 : decode cX8_goesOn 120 = .ok (.iload_n 2, 1) := by decide +kernel
theorem dX8_goesOn_121 : decode cX8_goesOn 121 = .ok (.invokevirtual 185, 3) := by decide +kernel
theorem dX8_goesOn_124 : decode cX8_goesOn 124 = .ok (.istore_n 3, 1) := by decide +kernel
theorem dX8_goesOn_125 : decode cX8_goesOn 125 = .ok (.iload_n 3, 1) := by decide +kernel
theorem dX8_goesOn_126 : decode cX8_goesOn 126 = .ok (.ifCond .ge 5, 3) := by decide +kernel
theorem dX8_goesOn_129 : decode cX8_goesOn 129 = .ok (.iconst 0, 1) := by decide +kernel
theorem dX8_goesOn_130 : decode cX8_goesOn 130 = .ok (.ireturn, 1) := by decide +kernel
theorem dX8_goesOn_131 : decode cX8_goesOn 131 = .ok (.aload_n 0, 1) := by decide +kernel
theorem dX8_goesOn_132 : decode cX8_goesOn 132 = .ok (.getfield 100, 3) := by decide +kernel
theorem dX8_goesOn_135 : decode cX8_goesOn 135 = .ok (.iload_n 2, 1) := by decide +kernel
theorem dX8_goesOn_136 : decode cX8_goesOn 136 = .ok (.bipush 6, 2) := by decide +kernel
theorem dX8_goesOn_138 : decode cX8_goesOn 138 = .ok (.aload_n 0, 1) := by decide +kernel
theorem dX8_goesOn_139 : decode cX8_goesOn 139 = .ok (.getfield 88, 3) := by decide +kernel
theorem dX8_goesOn_142 : decode cX8_goesOn 142 = .ok (.iload_n 1, 1) := by decide +kernel
theorem dX8_goesOn_143 : decode cX8_goesOn 143 = .ok (.iaload, 1) := by decide +kernel
theorem dX8_goesOn_144 : decode cX8_goesOn 144 = .ok (.imul, 1) := by decide +kernel
theorem dX8_goesOn_145 : decode cX8_goesOn 145 = .ok (.aload_n 0, 1) := by decide +kernel
theorem dX8_goesOn_146 : decode cX8_goesOn 146 = .ok (.getfield 91, 3) := by decide +kernel
theorem dX8_goesOn_149 : decode cX8_goesOn 149 = .ok (.iload_n 1, 1) := by decide +kernel
theorem dX8_goesOn_150 : decode cX8_goesOn 150 = .ok (.iaload, 1) := by decide +kernel
theorem dX8_goesOn_151 : decode cX8_goesOn 151 = .ok (.iadd, 1) := by decide +kernel
theorem dX8_goesOn_152 : decode cX8_goesOn 152 = .ok (.iastore, 1) := by decide +kernel
theorem dX8_goesOn_153 : decode cX8_goesOn 153 = .ok (.aload_n 0, 1) := by decide +kernel
theorem dX8_goesOn_154 : decode cX8_goesOn 154 = .ok (.getfield 88, 3) := by decide +kernel
theorem dX8_goesOn_157 : decode cX8_goesOn 157 = .ok (.iload_n 1, 1) := by decide +kernel
theorem dX8_goesOn_158 : decode cX8_goesOn 158 = .ok (.iconst 1, 1) := by decide +kernel
theorem dX8_goesOn_159 : decode cX8_goesOn 159 = .ok (.iadd, 1) := by decide +kernel
theorem dX8_goesOn_160 : decode cX8_goesOn 160 = .ok (.aload_n 0, 1) := by decide +kernel
theorem dX8_goesOn_161 : decode cX8_goesOn 161 = .ok (.getfield 88, 3) := by decide +kernel
theorem dX8_goesOn_164 : decode cX8_goesOn 164 = .ok (.iload_n 1, 1) := by decide +kernel
theorem dX8_goesOn_165 : decode cX8_goesOn 165 = .ok (.iaload, 1) := by decide +kernel
theorem dX8_goesOn_166 : decode cX8_goesOn 166 = .ok (.iastore, 1) := by decide +kernel
theorem dX8_goesOn_167 : decode cX8_goesOn 167 = .ok (.aload_n 0, 1) := by decide +kernel
theorem dX8_goesOn_168 : decode cX8_goesOn 168 = .ok (.getfield 91, 3) := by decide +kernel
theorem dX8_goesOn_171 : decode cX8_goesOn 171 = .ok (.iload_n 1, 1) := by decide +kernel
theorem dX8_goesOn_172 : decode cX8_goesOn 172 = .ok (.iconst 1, 1) := by decide +kernel
theorem dX8_goesOn_173 : decode cX8_goesOn 173 = .ok (.iadd, 1) := by decide +kernel
theorem dX8_goesOn_174 : decode cX8_goesOn 174 = .ok (.aload_n 0, 1) := by decide +kernel
theorem dX8_goesOn_175 : decode cX8_goesOn 175 = .ok (.getfield 91, 3) := by decide +kernel
theorem dX8_goesOn_178 : decode cX8_goesOn 178 = .ok (.iload_n 1, 1) := by decide +kernel
theorem dX8_goesOn_179 : decode cX8_goesOn 179 = .ok (.iaload, 1) := by decide +kernel
theorem dX8_goesOn_180 : decode cX8_goesOn 180 = .ok (.iconst 1, 1) := by decide +kernel
theorem dX8_goesOn_181 : decode cX8_goesOn 181 = .ok (.iadd, 1) := by decide +kernel
theorem dX8_goesOn_182 : decode cX8_goesOn 182 = .ok (.iastore, 1) := by decide +kernel
theorem dX8_goesOn_183 : decode cX8_goesOn 183 = .ok (.aload_n 0, 1) := by decide +kernel
theorem dX8_goesOn_184 : decode cX8_goesOn 184 = .ok (.getfield 94, 3) := by decide +kernel
theorem dX8_goesOn_187 : decode cX8_goesOn 187 = .ok (.iload_n 1, 1) := by decide +kernel
theorem dX8_goesOn_188 : decode cX8_goesOn 188 = .ok (.iconst 1, 1) := by decide +kernel
theorem dX8_goesOn_189 : decode cX8_goesOn 189 = .ok (.iadd, 1) := by decide +kernel
theorem dX8_goesOn_190 : decode cX8_goesOn 190 = .ok (.dup2, 1) := by decide +kernel
theorem dX8_goesOn_191 : decode cX8_goesOn 191 = .ok (.iaload, 1) := by decide +kernel
theorem dX8_goesOn_192 : decode cX8_goesOn 192 = .ok (.iload_n 3, 1) := by decide +kernel
theorem dX8_goesOn_193 : decode cX8_goesOn 193 = .ok (.iadd, 1) := by decide +kernel
theorem dX8_goesOn_194 : decode cX8_goesOn 194 = .ok (.iastore, 1) := by decide +kernel
theorem dX8_goesOn_195 : decode cX8_goesOn 195 = .ok (.aload_n 0, 1) := by decide +kernel
theorem dX8_goesOn_196 : decode cX8_goesOn 196 = .ok (.getfield 97, 3) := by decide +kernel
theorem dX8_goesOn_199 : decode cX8_goesOn 199 = .ok (.iload_n 1, 1) := by decide +kernel
theorem dX8_goesOn_200 : decode cX8_goesOn 200 = .ok (.iconst 1, 1) := by decide +kernel
theorem dX8_goesOn_201 : decode cX8_goesOn 201 = .ok (.iadd, 1) := by decide +kernel
theorem dX8_goesOn_202 : decode cX8_goesOn 202 = .ok (.dup2, 1) := by decide +kernel
theorem dX8_goesOn_203 : decode cX8_goesOn 203 = .ok (.iaload, 1) := by decide +kernel
theorem dX8_goesOn_204 : decode cX8_goesOn 204 = .ok (.iconst 1, 1) := by decide +kernel
theorem dX8_goesOn_205 : decode cX8_goesOn 205 = .ok (.iload_n 2, 1) := by decide +kernel
theorem dX8_goesOn_206 : decode cX8_goesOn 206 = .ok (.ishl, 1) := by decide +kernel
theorem dX8_goesOn_207 : decode cX8_goesOn 207 = .ok (.ior, 1) := by decide +kernel
theorem dX8_goesOn_208 : decode cX8_goesOn 208 = .ok (.iastore, 1) := by decide +kernel
theorem dX8_goesOn_209 : decode cX8_goesOn 209 = .ok (.iconst 1, 1) := by decide +kernel
theorem dX8_goesOn_210 : decode cX8_goesOn 210 = .ok (.ireturn, 1) := by decide +kernel
theorem dX8_ends_0 : decode cX8_ends 0 = .ok (.iconst 0, 1) := by decide +kernel
theorem dX8_ends_1 : decode cX8_ends 1 = .ok (.istore_n 2, 1) := by decide +kernel
theorem dX8_ends_2 : decode cX8_ends 2 = .ok (.iconst 0, 1) := by decide +kernel
theorem dX8_ends_3 : decode cX8_ends 3 = .ok (.istore_n 3, 1) := by decide +kernel
theorem dX8_ends_4 : decode cX8_ends 4 = .ok (.iload_n 3, 1) := by decide +kernel
theorem dX8_ends_5 : decode cX8_ends 5 = .ok (.aload_n 0, 1) := by decide +kernel
theorem dX8_ends_6 : decode cX8_ends 6 = .ok (.getfield 182, 3) := by decide +kernel
theorem dX8_ends_9 : decode cX8_ends 9 = .ok (.if_icmp .ge 21, 3) := by decide +kernel
theorem dX8_ends_12 : decode cX8_ends 12 = .ok (.bipush 24, 2) := by decide +kernel
theorem dX8_ends_14 : decode cX8_ends 14 = .ok (.iload_n 2, 1) := by decide +kernel
theorem dX8_ends_15 : decode cX8_ends 15 = .ok (.imul, 1) := by decide +kernel
theorem dX8_ends_16 : decode cX8_ends 16 = .ok (.aload_n 0, 1) := by decide +kernel
theorem dX8_ends_17 : decode cX8_ends 17 = .ok (.getfield 100, 3) := by decide +kernel
theorem dX8_ends_20 : decode cX8_ends 20 = .ok (.iload_n 3, 1) := by decide +kernel
theorem dX8_ends_21 : decode cX8_ends 21 = .ok (.iaload, 1) := by decide +kernel
theorem dX8_ends_22 : decode cX8_ends 22 = .ok (.iadd, 1) := by decide +kernel
theorem dX8_ends_23 : decode cX8_ends 23 = .ok (.istore_n 2, 1) := by decide +kernel
theorem dX8_ends_24 : decode cX8_ends 24 = .ok (.iinc 3 1, 3) := by decide +kernel
theorem dX8_ends_27 : decode cX8_ends 27 = .ok (.goto (-23), 3) := by decide +kernel
theorem dX8_ends_30 : decode cX8_ends 30 = .ok (.aload_n 0, 1) := by decide +kernel
theorem dX8_ends_31 : decode cX8_ends 31 = .ok (.getfield 188, 3) := by decide +kernel
theorem dX8_ends_34 : decode cX8_ends 34 = .ok (.ifCond .eq 27, 3) := by decide +kernel
theorem dX8_ends_37 : decode cX8_ends 37 = .ok (.iload_n 1, 1) := by decide +kernel
theorem dX8_ends_38 : decode cX8_ends 38 = .ok (.aload_n 0, 1) := by decide +kernel
theorem dX8_ends_39 : decode cX8_ends 39 = .ok (.getfield 192, 3) := by decide +kernel
theorem dX8_ends_42 : decode cX8_ends 42 = .ok (.if_icmp .lt 19, 3) := by decide +kernel
theorem dX8_ends_45 : decode cX8_ends 45 = .ok (.iload_n 1, 1) := by decide +kernel
theorem dX8_ends_46 : decode cX8_ends 46 = .ok (.aload_n 0, 1) := by decide +kernel
theorem dX8_ends_47 : decode cX8_ends 47 = .ok (.getfield 192, 3) := by decide +kernel
theorem dX8_ends_50 : decode cX8_ends 50 = .ok (.if_icmp .ne 54, 3) := by decide +kernel
theorem dX8_ends_53 : decode cX8_ends 53 = .ok (.iload_n 2, 1) := by decide +kernel
theorem dX8_ends_54 : decode cX8_ends 54 = .ok (.aload_n 0, 1) := by decide +kernel
theorem dX8_ends_55 : decode cX8_ends 55 = .ok (.getfield 195, 3) := by decide +kernel
theorem dX8_ends_58 : decode cX8_ends 58 = .ok (.if_icmp .ge 46, 3) := by decide +kernel
theorem dX8_ends_61 : decode cX8_ends 61 = .ok (.aload_n 0, 1) := by decide +kernel
theorem dX8_ends_62 : decode cX8_ends 62 = .ok (.iconst 1, 1) := by decide +kernel
theorem dX8_ends_63 : decode cX8_ends 63 = .ok (.putfield 188, 3) := by decide +kernel
theorem dX8_ends_66 : decode cX8_ends 66 = .ok (.aload_n 0, 1) := by decide +kernel
theorem dX8_ends_67 : decode cX8_ends 67 = .ok (.iload_n 1, 1) := by decide +kernel
theorem dX8_ends_68 : decode cX8_ends 68 = .ok (.putfield 192, 3) := by decide +kernel
theorem dX8_ends_71 : decode cX8_ends 71 = .ok (.aload_n 0, 1) := by decide +kernel
theorem dX8_ends_72 : decode cX8_ends 72 = .ok (.iload_n 2, 1) := by decide +kernel
theorem dX8_ends_73 : decode cX8_ends 73 = .ok (.putfield 195, 3) := by decide +kernel
theorem dX8_ends_76 : decode cX8_ends 76 = .ok (.iconst 0, 1) := by decide +kernel
theorem dX8_ends_77 : decode cX8_ends 77 = .ok (.istore_n 3, 1) := by decide +kernel
theorem dX8_ends_78 : decode cX8_ends 78 = .ok (.iload_n 3, 1) := by decide +kernel
theorem dX8_ends_79 : decode cX8_ends 79 = .ok (.aload_n 0, 1) := by decide +kernel
theorem dX8_ends_80 : decode cX8_ends 80 = .ok (.getfield 182, 3) := by decide +kernel
theorem dX8_ends_83 : decode cX8_ends 83 = .ok (.if_icmp .ge 21, 3) := by decide +kernel
theorem dX8_ends_86 : decode cX8_ends 86 = .ok (.aload_n 0, 1) := by decide +kernel
theorem dX8_ends_87 : decode cX8_ends 87 = .ok (.getfield 103, 3) := by decide +kernel
theorem dX8_ends_90 : decode cX8_ends 90 = .ok (.iload_n 3, 1) := by decide +kernel
theorem dX8_ends_91 : decode cX8_ends 91 = .ok (.aload_n 0, 1) := by decide +kernel
theorem dX8_ends_92 : decode cX8_ends 92 = .ok (.getfield 100, 3) := by decide +kernel
theorem dX8_ends_95 : decode cX8_ends 95 = .ok (.iload_n 3, 1) := by decide +kernel
theorem dX8_ends_96 : decode cX8_ends 96 = .ok (.iaload, 1) := by decide +kernel
theorem dX8_ends_97 : decode cX8_ends 97 = .ok (.iastore, 1) := by decide +kernel
theorem dX8_ends_98 : decode cX8_ends 98 = .ok (.iinc 3 1, 3) := by decide +kernel
theorem dX8_ends_101 : decode cX8_ends 101 = .ok (.goto (-23), 3) := by decide +kernel
theorem dX8_ends_104 : decode cX8_ends 104 = .ok (.return_, 1) := by decide +kernel
theorem dX8_findPlacing_0 : decode cX8_findPlacing 0 = .ok (.aload_n 0, 1) := by decide +kernel
theorem dX8_findPlacing_1 : decode cX8_findPlacing 1 = .ok (.iconst 0, 1) := by decide +kernel
theorem dX8_findPlacing_2 : decode cX8_findPlacing 2 = .ok (.putfield 188, 3) := by decide +kernel
theorem dX8_findPlacing_5 : decode cX8_findPlacing 5 = .ok (.aload_n 0, 1) := by decide +kernel
theorem dX8_findPlacing_6 : decode cX8_findPlacing 6 = .ok (.getfield 88, 3) := by decide +kernel
theorem dX8_findPlacing_9 : decode cX8_findPlacing 9 = .ok (.iconst 0, 1) := by decide +kernel
theorem dX8_findPlacing_10 : decode cX8_findPlacing 10 = .ok (.iconst 0, 1) := by decide +kernel
theorem dX8_findPlacing_11 : decode cX8_findPlacing 11 = .ok (.iastore, 1) := by decide +kernel
theorem dX8_findPlacing_12 : decode cX8_findPlacing 12 = .ok (.aload_n 0, 1) := by decide +kernel
theorem dX8_findPlacing_13 : decode cX8_findPlacing 13 = .ok (.getfield 91, 3) := by decide +kernel
theorem dX8_findPlacing_16 : decode cX8_findPlacing 16 = .ok (.iconst 0, 1) := by decide +kernel
theorem dX8_findPlacing_17 : decode cX8_findPlacing 17 = .ok (.iconst 0, 1) := by decide +kernel
theorem dX8_findPlacing_18 : decode cX8_findPlacing 18 = .ok (.iastore, 1) := by decide +kernel
theorem dX8_findPlacing_19 : decode cX8_findPlacing 19 = .ok (.aload_n 0, 1) := by decide +kernel
theorem dX8_findPlacing_20 : decode cX8_findPlacing 20 = .ok (.getfield 94, 3) := by decide +kernel
theorem dX8_findPlacing_23 : decode cX8_findPlacing 23 = .ok (.iconst 0, 1) := by decide +kernel
theorem dX8_findPlacing_24 : decode cX8_findPlacing 24 = .ok (.iconst 0, 1) := by decide +kernel
theorem dX8_findPlacing_25 : decode cX8_findPlacing 25 = .ok (.iastore, 1) := by decide +kernel
theorem dX8_findPlacing_26 : decode cX8_findPlacing 26 = .ok (.aload_n 0, 1) := by decide +kernel
theorem dX8_findPlacing_27 : decode cX8_findPlacing 27 = .ok (.getfield 97, 3) := by decide +kernel
theorem dX8_findPlacing_30 : decode cX8_findPlacing 30 = .ok (.iconst 0, 1) := by decide +kernel
theorem dX8_findPlacing_31 : decode cX8_findPlacing 31 = .ok (.iconst 0, 1) := by decide +kernel
theorem dX8_findPlacing_32 : decode cX8_findPlacing 32 = .ok (.iastore, 1) := by decide +kernel
theorem dX8_findPlacing_33 : decode cX8_findPlacing 33 = .ok (.aload_n 0, 1) := by decide +kernel
theorem dX8_findPlacing_34 : decode cX8_findPlacing 34 = .ok (.getfield 182, 3) := by decide +kernel
theorem dX8_findPlacing_37 : decode cX8_findPlacing 37 = .ok (.ifCond .ne 9, 3) := by decide +kernel
theorem dX8_findPlacing_40 : decode cX8_findPlacing 40 = .ok (.aload_n 0, 1) := by decide +kernel
theorem dX8_findPlacing_41 : decode cX8_findPlacing 41 = .ok (.iconst 0, 1) := by decide +kernel
theorem dX8_findPlacing_42 : decode cX8_findPlacing 42 = .ok (.invokevirtual 198, 3) := by decide +kernel
theorem dX8_findPlacing_45 : decode cX8_findPlacing 45 = .ok (.return_, 1) := by decide +kernel
theorem dX8_findPlacing_46 : decode cX8_findPlacing 46 = .ok (.iconst 0, 1) := by decide +kernel
theorem dX8_findPlacing_47 : decode cX8_findPlacing 47 = .ok (.istore_n 1, 1) := by decide +kernel
theorem dX8_findPlacing_48 : decode cX8_findPlacing 48 = .ok (.aload_n 0, 1) := by decide +kernel
theorem dX8_findPlacing_49 : decode cX8_findPlacing 49 = .ok (.getfield 85, 3) := by decide +kernel
theorem dX8_findPlacing_52 : decode cX8_findPlacing 52 = .ok (.iconst 0, 1) := by decide +kernel
theorem dX8_findPlacing_53 : decode cX8_findPlacing 53 = .ok (.iconst (-1), 1) := by decide +kernel
theorem dX8_findPlacing_54 : decode cX8_findPlacing 54 = .ok (.iastore, 1) := by decide +kernel
theorem dX8_findPlacing_55 : decode cX8_findPlacing 55 = .ok (.iload_n 1, 1) := by decide +kernel
theorem dX8_findPlacing_56 : decode cX8_findPlacing 56 = .ok (.ifCond .lt 109, 3) := by decide +kernel
theorem dX8_findPlacing_59 : decode cX8_findPlacing 59 = .ok (.aload_n 0, 1) := by decide +kernel
theorem dX8_findPlacing_60 : decode cX8_findPlacing 60 = .ok (.getfield 85, 3) := by decide +kernel
theorem dX8_findPlacing_63 : decode cX8_findPlacing 63 = .ok (.iload_n 1, 1) := by decide +kernel
theorem dX8_findPlacing_64 : decode cX8_findPlacing 64 = .ok (.dup2, 1) := by decide +kernel
theorem dX8_findPlacing_65 : decode cX8_findPlacing 65 = .ok (.iaload, 1) := by decide +kernel
theorem dX8_findPlacing_66 : decode cX8_findPlacing 66 = .ok (.iconst 1, 1) := by decide +kernel
theorem dX8_findPlacing_67 : decode cX8_findPlacing 67 = .ok (.iadd, 1) := by decide +kernel
theorem dX8_findPlacing_68 : decode cX8_findPlacing 68 = .ok (.iastore, 1) := by decide +kernel
theorem dX8_findPlacing_69 : decode cX8_findPlacing 69 = .ok (.aload_n 0, 1) := by decide +kernel
theorem dX8_findPlacing_70 : decode cX8_findPlacing 70 = .ok (.getfield 85, 3) := by decide +kernel
theorem dX8_findPlacing_73 : decode cX8_findPlacing 73 = .ok (.iload_n 1, 1) := by decide +kernel
theorem dX8_findPlacing_74 : decode cX8_findPlacing 74 = .ok (.iaload, 1) := by decide +kernel
theorem dX8_findPlacing_75 : decode cX8_findPlacing 75 = .ok (.bipush 6, 2) := by decide +kernel
theorem dX8_findPlacing_77 : decode cX8_findPlacing 77 = .ok (.if_icmp .gt 24, 3) := by decide +kernel
theorem dX8_findPlacing_80 : decode cX8_findPlacing 80 = .ok (.aload_n 0, 1) := by decide +kernel
theorem dX8_findPlacing_81 : decode cX8_findPlacing 81 = .ok (.iload_n 1, 1) := by decide +kernel
theorem dX8_findPlacing_82 : decode cX8_findPlacing 82 = .ok (.invokevirtual 201, 3) := by decide +kernel
theorem dX8_findPlacing_85 : decode cX8_findPlacing 85 = .ok (.ifCond .ne 16, 3) := by decide +kernel
theorem dX8_findPlacing_88 : decode cX8_findPlacing 88 = .ok (.aload_n 0, 1) := by decide +kernel
theorem dX8_findPlacing_89 : decode cX8_findPlacing 89 = .ok (.getfield 85, 3) := by decide +kernel
theorem dX8_findPlacing_92 : decode cX8_findPlacing 92 = .ok (.iload_n 1, 1) := by decide +kernel
theorem dX8_findPlacing_93 : decode cX8_findPlacing 93 = .ok (.dup2, 1) := by decide +kernel
theorem dX8_findPlacing_94 : decode cX8_findPlacing 94 = .ok (.iaload, 1) := by decide +kernel
theorem dX8_findPlacing_95 : decode cX8_findPlacing 95 = .ok (.iconst 1, 1) := by decide +kernel
theorem dX8_findPlacing_96 : decode cX8_findPlacing 96 = .ok (.iadd, 1) := by decide +kernel
theorem dX8_findPlacing_97 : decode cX8_findPlacing 97 = .ok (.iastore, 1) := by decide +kernel
theorem dX8_findPlacing_98 : decode cX8_findPlacing 98 = .ok (.goto (-29), 3) := by decide +kernel
theorem dX8_findPlacing_101 : decode cX8_findPlacing 101 = .ok (.aload_n 0, 1) := by decide +kernel
theorem dX8_findPlacing_102 : decode cX8_findPlacing 102 = .ok (.getfield 85, 3) := by decide +kernel
theorem dX8_findPlacing_105 : decode cX8_findPlacing 105 = .ok (.iload_n 1, 1) := by decide +kernel
theorem dX8_findPlacing_106 : decode cX8_findPlacing 106 = .ok (.iaload, 1) := by decide +kernel
theorem dX8_findPlacing_107 : decode cX8_findPlacing 107 = .ok (.bipush 6, 2) := by decide +kernel
theorem dX8_findPlacing_109 : decode cX8_findPlacing 109 = .ok (.if_icmp .le 9, 3) := by decide +kernel
theorem dX8_findPlacing_112 : decode cX8_findPlacing 112 = .ok (.iinc 1 (-1), 3) := by decide +kernel
theorem dX8_findPlacing_115 : decode cX8_findPlacing 115 = .ok (.goto (-60), 3) := by decide +kernel
theorem dX8_findPlacing_118 : decode cX8_findPlacing 118 = .ok (.aload_n 0, 1) := by decide +kernel
theorem dX8_findPlacing_119 : decode cX8_findPlacing 119 = .ok (.getfield 97, 3) := by decide +kernel
theorem dX8_findPlacing_122 : decode cX8_findPlacing 122 = .ok (.iload_n 1, 1) := by decide +kernel
theorem dX8_findPlacing_123 : decode cX8_findPlacing 123 = .ok (.iconst 1, 1) := by decide +kernel
theorem dX8_findPlacing_124 : decode cX8_findPlacing 124 = .ok (.iadd, 1) := by decide +kernel
theorem dX8_findPlacing_125 : decode cX8_findPlacing 125 = .ok (.iaload, 1) := by decide +kernel
theorem dX8_findPlacing_126 : decode cX8_findPlacing 126 = .ok (.iconst 1, 1) := by decide +kernel
theorem dX8_findPlacing_127 : decode cX8_findPlacing 127 = .ok (.aload_n 0, 1) := by decide +kernel
theorem dX8_findPlacing_128 : decode cX8_findPlacing 128 = .ok (.getfield 182, 3) := by decide +kernel
theorem dX8_findPlacing_131 : decode cX8_findPlacing 131 = .ok (.ishl, 1) := by decide +kernel
theorem dX8_findPlacing_132 : decode cX8_findPlacing 132 = .ok (.iconst 1, 1) := by decide +kernel
theorem dX8_findPlacing_133 : decode cX8_findPlacing 133 = .ok (.isub, 1) := by decide +kernel
theorem dX8_findPlacing_134 : decode cX8_findPlacing 134 = .ok (.if_icmp .ne 18, 3) := by decide +kernel
theorem dX8_findPlacing_137 : decode cX8_findPlacing 137 = .ok (.aload_n 0, 1) := by decide +kernel
theorem dX8_findPlacing_138 : decode cX8_findPlacing 138 = .ok (.aload_n 0, 1) := by decide +kernel
theorem dX8_findPlacing_139 : decode cX8_findPlacing 139 = .ok (.getfield 94, 3) := by decide +kernel
theorem dX8_findPlacing_142 : decode cX8_findPlacing 142 = .ok (.iload_n 1, 1) := by decide +kernel
theorem dX8_findPlacing_143 : decode cX8_findPlacing 143 = .ok (.iconst 1, 1) := by decide +kernel
theorem dX8_findPlacing_144 : decode cX8_findPlacing 144 = .ok (.iadd, 1) := by decide +kernel
theorem dX8_findPlacing_145 : decode cX8_findPlacing 145 = .ok (.iaload, 1) := by decide +kernel
theorem dX8_findPlacing_146 : decode cX8_findPlacing 146 = .ok (.invokevirtual 198, 3) := by decide +kernel
theorem dX8_findPlacing_149 : decode cX8_findPlacing 149 = .ok (.goto (-94), 3) := by decide +kernel
theorem dX8_findPlacing_152 : decode cX8_findPlacing 152 = .ok (.iinc 1 1, 3) := by decide +kernel
theorem dX8_findPlacing_155 : decode cX8_findPlacing 155 = .ok (.aload_n 0, 1) := by decide +kernel
theorem dX8_findPlacing_156 : decode cX8_findPlacing 156 = .ok (.getfield 85, 3) := by decide +kernel
theorem dX8_findPlacing_159 : decode cX8_findPlacing 159 = .ok (.iload_n 1, 1) := by decide +kernel
theorem dX8_findPlacing_160 : decode cX8_findPlacing 160 = .ok (.iconst (-1), 1) := by decide +kernel
theorem dX8_findPlacing_161 : decode cX8_findPlacing 161 = .ok (.iastore, 1) := by decide +kernel
theorem dX8_findPlacing_162 : decode cX8_findPlacing 162 = .ok (.goto (-107), 3) := by decide +kernel
theorem dX8_findPlacing_165 : decode cX8_findPlacing 165 = .ok (.return_, 1) := by decide +kernel
theorem dX8_refusal_0 : decode cX8_refusal 0 = .ok (.iload_n 1, 1) := by decide +kernel
theorem dX8_refusal_1 : decode cX8_refusal 1 = .ok (.iconst 0, 1) := by decide +kernel
theorem dX8_refusal_2 : decode cX8_refusal 2 = .ok (.iconst 1, 1) := by decide +kernel
theorem dX8_refusal_3 : decode cX8_refusal 3 = .ok (.aload_n 0, 1) := by decide +kernel
theorem dX8_refusal_4 : decode cX8_refusal 4 = .ok (.getfield 122, 3) := by decide +kernel
theorem dX8_refusal_7 : decode cX8_refusal 7 = .ok (.ishl, 1) := by decide +kernel
theorem dX8_refusal_8 : decode cX8_refusal 8 = .ok (.iconst 1, 1) := by decide +kernel
theorem dX8_refusal_9 : decode cX8_refusal 9 = .ok (.isub, 1) := by decide +kernel
theorem dX8_refusal_10 : decode cX8_refusal 10 = .ok (.invokestatic 118, 3) := by decide +kernel
theorem dX8_refusal_13 : decode cX8_refusal 13 = .ok (.ifCond .ne 6, 3) := by decide +kernel
theorem dX8_refusal_16 : decode cX8_refusal 16 = .ok (.ldc 125, 2) := by decide +kernel
theorem dX8_refusal_18 : decode cX8_refusal 18 = .ok (.ireturn, 1) := by decide +kernel
theorem dX8_refusal_19 : decode cX8_refusal 19 = .ok (.aload_n 0, 1) := by decide +kernel
theorem dX8_refusal_20 : decode cX8_refusal 20 = .ok (.iconst 0, 1) := by decide +kernel
theorem dX8_refusal_21 : decode cX8_refusal 21 = .ok (.putfield 182, 3) := by decide +kernel
theorem dX8_refusal_24 : decode cX8_refusal 24 = .ok (.iconst 0, 1) := by decide +kernel
theorem dX8_refusal_25 : decode cX8_refusal 25 = .ok (.istore_n 3, 1) := by decide +kernel
theorem dX8_refusal_26 : decode cX8_refusal 26 = .ok (.iconst 0, 1) := by decide +kernel
theorem dX8_refusal_27 : decode cX8_refusal 27 = .ok (.istore 4, 2) := by decide +kernel
theorem dX8_refusal_29 : decode cX8_refusal 29 = .ok (.iload 4, 2) := by decide +kernel
theorem dX8_refusal_31 : decode cX8_refusal 31 = .ok (.aload_n 0, 1) := by decide +kernel
theorem dX8_refusal_32 : decode cX8_refusal 32 = .ok (.getfield 122, 3) := by decide +kernel
theorem dX8_refusal_35 : decode cX8_refusal 35 = .ok (.if_icmp .ge 58, 3) := by decide +kernel
theorem dX8_refusal_38 : decode cX8_refusal 38 = .ok (.iload_n 3, 1) := by decide +kernel
theorem dX8_refusal_39 : decode cX8_refusal 39 = .ok (.iload_n 1, 1) := by decide +kernel
theorem dX8_refusal_40 : decode cX8_refusal 40 = .ok (.iload 4, 2) := by decide +kernel
theorem dX8_refusal_42 : decode cX8_refusal 42 = .ok (.ishr, 1) := by decide +kernel
theorem dX8_refusal_43 : decode cX8_refusal 43 = .ok (.iconst 1, 1) := by decide +kernel
theorem dX8_refusal_44 : decode cX8_refusal 44 = .ok (.iand, 1) := by decide +kernel
theorem dX8_refusal_45 : decode cX8_refusal 45 = .ok (.iadd, 1) := by decide +kernel
theorem dX8_refusal_46 : decode cX8_refusal 46 = .ok (.istore_n 3, 1) := by decide +kernel
theorem dX8_refusal_47 : decode cX8_refusal 47 = .ok (.iload_n 1, 1) := by decide +kernel
theorem dX8_refusal_48 : decode cX8_refusal 48 = .ok (.iload 4, 2) := by decide +kernel
theorem dX8_refusal_50 : decode cX8_refusal 50 = .ok (.ishr, 1) := by decide +kernel
theorem dX8_refusal_51 : decode cX8_refusal 51 = .ok (.iconst 1, 1) := by decide +kernel
theorem dX8_refusal_52 : decode cX8_refusal 52 = .ok (.iand, 1) := by decide +kernel
theorem dX8_refusal_53 : decode cX8_refusal 53 = .ok (.iconst 1, 1) := by decide +kernel
theorem dX8_refusal_54 : decode cX8_refusal 54 = .ok (.if_icmp .ne 33, 3) := by decide +kernel
theorem dX8_refusal_57 : decode cX8_refusal 57 = .ok (.aload_n 0, 1) := by decide +kernel
theorem dX8_refusal_58 : decode cX8_refusal 58 = .ok (.getfield 182, 3) := by decide +kernel
theorem dX8_refusal_61 : decode cX8_refusal 61 = .ok (.bipush 6, 2) := by decide +kernel
theorem dX8_refusal_63 : decode cX8_refusal 63 = .ok (.if_icmp .ge 24, 3) := by decide +kernel
theorem dX8_refusal_66 : decode cX8_refusal 66 = .ok (.aload_n 0, 1) := by decide +kernel
theorem dX8_refusal_67 : decode cX8_refusal 67 = .ok (.getfield 82, 3) := by decide +kernel
theorem dX8_refusal_70 : decode cX8_refusal 70 = .ok (.aload_n 0, 1) := by decide +kernel
theorem dX8_refusal_71 : decode cX8_refusal 71 = .ok (.getfield 182, 3) := by decide +kernel
theorem dX8_refusal_74 : decode cX8_refusal 74 = .ok (.iload 4, 2) := by decide +kernel
theorem dX8_refusal_76 : decode cX8_refusal 76 = .ok (.iastore, 1) := by decide +kernel
theorem dX8_refusal_77 : decode cX8_refusal 77 = .ok (.aload_n 0, 1) := by decide +kernel
theorem dX8_refusal_78 : decode cX8_refusal 78 = .ok (.dup, 1) := by decide +kernel
theorem dX8_refusal_79 : decode cX8_refusal 79 = .ok (.getfield 182, 3) := by decide +kernel
theorem dX8_refusal_82 : decode cX8_refusal 82 = .ok (.iconst 1, 1) := by decide +kernel
theorem dX8_refusal_83 : decode cX8_refusal 83 = .ok (.iadd, 1) := by decide +kernel
theorem dX8_refusal_84 : decode cX8_refusal 84 = .ok (.putfield 182, 3) := by decide +kernel
theorem dX8_refusal_87 : decode cX8_refusal 87 = .ok (.iinc 4 1, 3) := by decide +kernel
theorem dX8_refusal_90 : decode cX8_refusal 90 = .ok (.goto (-61), 3) := by decide +kernel
theorem dX8_refusal_93 : decode cX8_refusal 93 = .ok (.iload_n 3, 1) := by decide +kernel
theorem dX8_refusal_94 : decode cX8_refusal 94 = .ok (.bipush 6, 2) := by decide +kernel
theorem dX8_refusal_96 : decode cX8_refusal 96 = .ok (.if_icmp .le 6, 3) := by decide +kernel
theorem dX8_refusal_99 : decode cX8_refusal 99 = .ok (.ldc 204, 2) := by decide +kernel
theorem dX8_refusal_101 : decode cX8_refusal 101 = .ok (.ireturn, 1) := by decide +kernel
theorem dX8_refusal_102 : decode cX8_refusal 102 = .ok (.iload_n 2, 1) := by decide +kernel
theorem dX8_refusal_103 : decode cX8_refusal 103 = .ok (.iconst (-1), 1) := by decide +kernel
theorem dX8_refusal_104 : decode cX8_refusal 104 = .ok (.if_icmp .eq 22, 3) := by decide +kernel
theorem dX8_refusal_107 : decode cX8_refusal 107 = .ok (.aload_n 0, 1) := by decide +kernel
theorem dX8_refusal_108 : decode cX8_refusal 108 = .ok (.iload_n 2, 1) := by decide +kernel
theorem dX8_refusal_109 : decode cX8_refusal 109 = .ok (.invokevirtual 131, 3) := by decide +kernel
theorem dX8_refusal_112 : decode cX8_refusal 112 = .ok (.ifCond .eq 11, 3) := by decide +kernel
theorem dX8_refusal_115 : decode cX8_refusal 115 = .ok (.iload_n 1, 1) := by decide +kernel
theorem dX8_refusal_116 : decode cX8_refusal 116 = .ok (.iload_n 2, 1) := by decide +kernel
theorem dX8_refusal_117 : decode cX8_refusal 117 = .ok (.ishr, 1) := by decide +kernel
theorem dX8_refusal_118 : decode cX8_refusal 118 = .ok (.iconst 1, 1) := by decide +kernel
theorem dX8_refusal_119 : decode cX8_refusal 119 = .ok (.iand, 1) := by decide +kernel
theorem dX8_refusal_120 : decode cX8_refusal 120 = .ok (.ifCond .ne 6, 3) := by decide +kernel
theorem dX8_refusal_123 : decode cX8_refusal 123 = .ok (.ldc 145, 2) := by decide +kernel
theorem dX8_refusal_125 : decode cX8_refusal 125 = .ok (.ireturn, 1) := by decide +kernel
theorem dX8_refusal_126 : decode cX8_refusal 126 = .ok (.aload_n 0, 1) := by decide +kernel
theorem dX8_refusal_127 : decode cX8_refusal 127 = .ok (.invokevirtual 205, 3) := by decide +kernel
theorem dX8_refusal_130 : decode cX8_refusal 130 = .ok (.aload_n 0, 1) := by decide +kernel
theorem dX8_refusal_131 : decode cX8_refusal 131 = .ok (.getfield 188, 3) := by decide +kernel
theorem dX8_refusal_134 : decode cX8_refusal 134 = .ok (.ifCond .eq 7, 3) := by decide +kernel
theorem dX8_refusal_137 : decode cX8_refusal 137 = .ok (.iconst 0, 1) := by decide +kernel
theorem dX8_refusal_138 : decode cX8_refusal 138 = .ok (.goto 5, 3) := by decide +kernel
theorem dX8_refusal_141 : decode cX8_refusal 141 = .ok (.ldc 181, 2) := by decide +kernel
theorem dX8_refusal_143 : decode cX8_refusal 143 = .ok (.ireturn, 1) := by decide +kernel
theorem dX8_plan_0 : decode cX8_plan 0 = .ok (.aload_n 0, 1) := by decide +kernel
theorem dX8_plan_1 : decode cX8_plan 1 = .ok (.iload_n 1, 1) := by decide +kernel
theorem dX8_plan_2 : decode cX8_plan 2 = .ok (.iconst (-1), 1) := by decide +kernel
theorem dX8_plan_3 : decode cX8_plan 3 = .ok (.invokevirtual 208, 3) := by decide +kernel
theorem dX8_plan_6 : decode cX8_plan 6 = .ok (.istore_n 2, 1) := by decide +kernel
theorem dX8_plan_7 : decode cX8_plan 7 = .ok (.iload_n 2, 1) := by decide +kernel
theorem dX8_plan_8 : decode cX8_plan 8 = .ok (.ifCond .eq 11, 3) := by decide +kernel
theorem dX8_plan_11 : decode cX8_plan 11 = .ok (.aload_n 0, 1) := by decide +kernel
theorem dX8_plan_12 : decode cX8_plan 12 = .ok (.iload_n 2, 1) := by decide +kernel
theorem dX8_plan_13 : decode cX8_plan 13 = .ok (.invokevirtual 126, 3) := by decide +kernel
theorem dX8_plan_16 : decode cX8_plan 16 = .ok (.goto 7, 3) := by decide +kernel
theorem dX8_plan_19 : decode cX8_plan 19 = .ok (.aload_n 0, 1) := by decide +kernel
theorem dX8_plan_20 : decode cX8_plan 20 = .ok (.getfield 192, 3) := by decide +kernel
theorem dX8_plan_23 : decode cX8_plan 23 = .ok (.ireturn, 1) := by decide +kernel
theorem dX8_lies_0 : decode cX8_lies 0 = .ok (.aload_n 0, 1) := by decide +kernel
theorem dX8_lies_1 : decode cX8_lies 1 = .ok (.iload_n 1, 1) := by decide +kernel
theorem dX8_lies_2 : decode cX8_lies 2 = .ok (.iload_n 2, 1) := by decide +kernel
theorem dX8_lies_3 : decode cX8_lies 3 = .ok (.iconst (-1), 1) := by decide +kernel
theorem dX8_lies_4 : decode cX8_lies 4 = .ok (.if_icmp .ne 8, 3) := by decide +kernel
theorem dX8_lies_7 : decode cX8_lies 7 = .ok (.bipush (-2), 2) := by decide +kernel
theorem dX8_lies_9 : decode cX8_lies 9 = .ok (.goto 4, 3) := by decide +kernel
theorem dX8_lies_12 : decode cX8_lies 12 = .ok (.iload_n 2, 1) := by decide +kernel
theorem dX8_lies_13 : decode cX8_lies 13 = .ok (.invokevirtual 208, 3) := by decide +kernel
theorem dX8_lies_16 : decode cX8_lies 16 = .ok (.istore 4, 2) := by decide +kernel
theorem dX8_lies_18 : decode cX8_lies 18 = .ok (.iload 4, 2) := by decide +kernel
theorem dX8_lies_20 : decode cX8_lies 20 = .ok (.ifCond .eq 10, 3) := by decide +kernel
theorem dX8_lies_23 : decode cX8_lies 23 = .ok (.aload_n 0, 1) := by decide +kernel
theorem dX8_lies_24 : decode cX8_lies 24 = .ok (.iload 4, 2) := by decide +kernel
theorem dX8_lies_26 : decode cX8_lies 26 = .ok (.invokevirtual 126, 3) := by decide +kernel
theorem dX8_lies_29 : decode cX8_lies 29 = .ok (.ireturn, 1) := by decide +kernel
theorem dX8_lies_30 : decode cX8_lies 30 = .ok (.iconst 0, 1) := by decide +kernel
theorem dX8_lies_31 : decode cX8_lies 31 = .ok (.istore 5, 2) := by decide +kernel
theorem dX8_lies_33 : decode cX8_lies 33 = .ok (.aload_n 0, 1) := by decide +kernel
theorem dX8_lies_34 : decode cX8_lies 34 = .ok (.getfield 82, 3) := by decide +kernel
theorem dX8_lies_37 : decode cX8_lies 37 = .ok (.iload 5, 2) := by decide +kernel
theorem dX8_lies_39 : decode cX8_lies 39 = .ok (.iaload, 1) := by decide +kernel
theorem dX8_lies_40 : decode cX8_lies 40 = .ok (.iload_n 2, 1) := by decide +kernel
theorem dX8_lies_41 : decode cX8_lies 41 = .ok (.if_icmp .eq 9, 3) := by decide +kernel
theorem dX8_lies_44 : decode cX8_lies 44 = .ok (.iinc 5 1, 3) := by decide +kernel
theorem dX8_lies_47 : decode cX8_lies 47 = .ok (.goto (-14), 3) := by decide +kernel
theorem dX8_lies_50 : decode cX8_lies 50 = .ok (.iload_n 3, 1) := by decide +kernel
theorem dX8_lies_51 : decode cX8_lies 51 = .ok (.ifCond .eq 16, 3) := by decide +kernel
theorem dX8_lies_54 : decode cX8_lies 54 = .ok (.aload_n 0, 1) := by decide +kernel
theorem dX8_lies_55 : decode cX8_lies 55 = .ok (.getfield 103, 3) := by decide +kernel
theorem dX8_lies_58 : decode cX8_lies 58 = .ok (.iload 5, 2) := by decide +kernel
theorem dX8_lies_60 : decode cX8_lies 60 = .ok (.iaload, 1) := by decide +kernel
theorem dX8_lies_61 : decode cX8_lies 61 = .ok (.bipush 6, 2) := by decide +kernel
theorem dX8_lies_63 : decode cX8_lies 63 = .ok (.irem, 1) := by decide +kernel
theorem dX8_lies_64 : decode cX8_lies 64 = .ok (.goto 13, 3) := by decide +kernel
theorem dX8_lies_67 : decode cX8_lies 67 = .ok (.aload_n 0, 1) := by decide +kernel
theorem dX8_lies_68 : decode cX8_lies 68 = .ok (.getfield 103, 3) := by decide +kernel
theorem dX8_lies_71 : decode cX8_lies 71 = .ok (.iload 5, 2) := by decide +kernel
theorem dX8_lies_73 : decode cX8_lies 73 = .ok (.iaload, 1) := by decide +kernel
theorem dX8_lies_74 : decode cX8_lies 74 = .ok (.bipush 6, 2) := by decide +kernel
theorem dX8_lies_76 : decode cX8_lies 76 = .ok (.idiv, 1) := by decide +kernel
theorem dX8_lies_77 : decode cX8_lies 77 = .ok (.ireturn, 1) := by decide +kernel
theorem dX8_lay_0 : decode cX8_lay 0 = .ok (.aload_n 0, 1) := by decide +kernel
theorem dX8_lay_1 : decode cX8_lay 1 = .ok (.iload_n 1, 1) := by decide +kernel
theorem dX8_lay_2 : decode cX8_lay 2 = .ok (.iconst (-1), 1) := by decide +kernel
theorem dX8_lay_3 : decode cX8_lay 3 = .ok (.invokevirtual 208, 3) := by decide +kernel
theorem dX8_lay_6 : decode cX8_lay 6 = .ok (.istore_n 2, 1) := by decide +kernel
theorem dX8_lay_7 : decode cX8_lay 7 = .ok (.iload_n 2, 1) := by decide +kernel
theorem dX8_lay_8 : decode cX8_lay 8 = .ok (.ifCond .eq 9, 3) := by decide +kernel
theorem dX8_lay_11 : decode cX8_lay 11 = .ok (.aload_n 0, 1) := by decide +kernel
theorem dX8_lay_12 : decode cX8_lay 12 = .ok (.iload_n 2, 1) := by decide +kernel
theorem dX8_lay_13 : decode cX8_lay 13 = .ok (.invokevirtual 126, 3) := by decide +kernel
theorem dX8_lay_16 : decode cX8_lay 16 = .ok (.ireturn, 1) := by decide +kernel
theorem dX8_lay_17 : decode cX8_lay 17 = .ok (.iconst 0, 1) := by decide +kernel
theorem dX8_lay_18 : decode cX8_lay 18 = .ok (.istore_n 3, 1) := by decide +kernel
theorem dX8_lay_19 : decode cX8_lay 19 = .ok (.iload_n 3, 1) := by decide +kernel
theorem dX8_lay_20 : decode cX8_lay 20 = .ok (.aload_n 0, 1) := by decide +kernel
theorem dX8_lay_21 : decode cX8_lay 21 = .ok (.getfield 122, 3) := by decide +kernel
theorem dX8_lay_24 : decode cX8_lay 24 = .ok (.if_icmp .ge 20, 3) := by decide +kernel
theorem dX8_lay_27 : decode cX8_lay 27 = .ok (.aload_n 0, 1) := by decide +kernel
theorem dX8_lay_28 : decode cX8_lay 28 = .ok (.getfield 106, 3) := by decide +kernel
theorem dX8_lay_31 : decode cX8_lay 31 = .ok (.iload_n 3, 1) := by decide +kernel
theorem dX8_lay_32 : decode cX8_lay 32 = .ok (.aload_n 0, 1) := by decide +kernel
theorem dX8_lay_33 : decode cX8_lay 33 = .ok (.iload_n 3, 1) := by decide +kernel
theorem dX8_lay_34 : decode cX8_lay 34 = .ok (.invokevirtual 146, 3) := by decide +kernel
theorem dX8_lay_37 : decode cX8_lay 37 = .ok (.iastore, 1) := by decide +kernel
theorem dX8_lay_38 : decode cX8_lay 38 = .ok (.iinc 3 1, 3) := by decide +kernel
theorem dX8_lay_41 : decode cX8_lay 41 = .ok (.goto (-22), 3) := by decide +kernel
theorem dX8_lay_44 : decode cX8_lay 44 = .ok (.iconst 0, 1) := by decide +kernel
theorem dX8_lay_45 : decode cX8_lay 45 = .ok (.istore_n 3, 1) := by decide +kernel
theorem dX8_lay_46 : decode cX8_lay 46 = .ok (.iload_n 3, 1) := by decide +kernel
theorem dX8_lay_47 : decode cX8_lay 47 = .ok (.aload_n 0, 1) := by decide +kernel
theorem dX8_lay_48 : decode cX8_lay 48 = .ok (.getfield 115, 3) := by decide +kernel
theorem dX8_lay_51 : decode cX8_lay 51 = .ok (.if_icmp .ge 16, 3) := by decide +kernel
theorem dX8_lay_54 : decode cX8_lay 54 = .ok (.aload_n 0, 1) := by decide +kernel
theorem dX8_lay_55 : decode cX8_lay 55 = .ok (.getfield 50, 3) := by decide +kernel
theorem dX8_lay_58 : decode cX8_lay 58 = .ok (.iload_n 3, 1) := by decide +kernel
theorem dX8_lay_59 : decode cX8_lay 59 = .ok (.iconst 0, 1) := by decide +kernel
theorem dX8_lay_60 : decode cX8_lay 60 = .ok (.iastore, 1) := by decide +kernel
theorem dX8_lay_61 : decode cX8_lay 61 = .ok (.iinc 3 1, 3) := by decide +kernel
theorem dX8_lay_64 : decode cX8_lay 64 = .ok (.goto (-18), 3) := by decide +kernel
theorem dX8_lay_67 : decode cX8_lay 67 = .ok (.iconst 0, 1) := by decide +kernel
theorem dX8_lay_68 : decode cX8_lay 68 = .ok (.istore_n 3, 1) := by decide +kernel
theorem dX8_lay_69 : decode cX8_lay 69 = .ok (.iload_n 3, 1) := by decide +kernel
theorem dX8_lay_70 : decode cX8_lay 70 = .ok (.aload_n 0, 1) := by decide +kernel
theorem dX8_lay_71 : decode cX8_lay 71 = .ok (.getfield 182, 3) := by decide +kernel
theorem dX8_lay_74 : decode cX8_lay 74 = .ok (.if_icmp .ge 44, 3) := by decide +kernel
theorem dX8_lay_77 : decode cX8_lay 77 = .ok (.aload_n 0, 1) := by decide +kernel
theorem dX8_lay_78 : decode cX8_lay 78 = .ok (.getfield 53, 3) := by decide +kernel
theorem dX8_lay_81 : decode cX8_lay 81 = .ok (.aload_n 0, 1) := by decide +kernel
theorem dX8_lay_82 : decode cX8_lay 82 = .ok (.getfield 103, 3) := by decide +kernel
theorem dX8_lay_85 : decode cX8_lay 85 = .ok (.iload_n 3, 1) := by decide +kernel
theorem dX8_lay_86 : decode cX8_lay 86 = .ok (.iaload, 1) := by decide +kernel
theorem dX8_lay_87 : decode cX8_lay 87 = .ok (.aload_n 0, 1) := by decide +kernel
theorem dX8_lay_88 : decode cX8_lay 88 = .ok (.getfield 82, 3) := by decide +kernel
theorem dX8_lay_91 : decode cX8_lay 91 = .ok (.iload_n 3, 1) := by decide +kernel
theorem dX8_lay_92 : decode cX8_lay 92 = .ok (.iaload, 1) := by decide +kernel
theorem dX8_lay_93 : decode cX8_lay 93 = .ok (.iastore, 1) := by decide +kernel
theorem dX8_lay_94 : decode cX8_lay 94 = .ok (.aload_n 0, 1) := by decide +kernel
theorem dX8_lay_95 : decode cX8_lay 95 = .ok (.getfield 50, 3) := by decide +kernel
theorem dX8_lay_98 : decode cX8_lay 98 = .ok (.aload_n 0, 1) := by decide +kernel
theorem dX8_lay_99 : decode cX8_lay 99 = .ok (.getfield 103, 3) := by decide +kernel
theorem dX8_lay_102 : decode cX8_lay 102 = .ok (.iload_n 3, 1) := by decide +kernel
theorem dX8_lay_103 : decode cX8_lay 103 = .ok (.iaload, 1) := by decide +kernel
theorem dX8_lay_104 : decode cX8_lay 104 = .ok (.bipush 6, 2) := by decide +kernel
theorem dX8_lay_106 : decode cX8_lay 106 = .ok (.idiv, 1) := by decide +kernel
theorem dX8_lay_107 : decode cX8_lay 107 = .ok (.dup2, 1) := by decide +kernel
theorem dX8_lay_108 : decode cX8_lay 108 = .ok (.iaload, 1) := by decide +kernel
theorem dX8_lay_109 : decode cX8_lay 109 = .ok (.iconst 1, 1) := by decide +kernel
theorem dX8_lay_110 : decode cX8_lay 110 = .ok (.iadd, 1) := by decide +kernel
theorem dX8_lay_111 : decode cX8_lay 111 = .ok (.iastore, 1) := by decide +kernel
theorem dX8_lay_112 : decode cX8_lay 112 = .ok (.iinc 3 1, 3) := by decide +kernel
theorem dX8_lay_115 : decode cX8_lay 115 = .ok (.goto (-46), 3) := by decide +kernel
theorem dX8_lay_118 : decode cX8_lay 118 = .ok (.iconst 0, 1) := by decide +kernel
theorem dX8_lay_119 : decode cX8_lay 119 = .ok (.istore_n 3, 1) := by decide +kernel
theorem dX8_lay_120 : decode cX8_lay 120 = .ok (.iconst 0, 1) := by decide +kernel
theorem dX8_lay_121 : decode cX8_lay 121 = .ok (.istore 4, 2) := by decide +kernel
theorem dX8_lay_123 : decode cX8_lay 123 = .ok (.iload 4, 2) := by decide +kernel
theorem dX8_lay_125 : decode cX8_lay 125 = .ok (.aload_n 0, 1) := by decide +kernel
theorem dX8_lay_126 : decode cX8_lay 126 = .ok (.getfield 122, 3) := by decide +kernel
theorem dX8_lay_129 : decode cX8_lay 129 = .ok (.if_icmp .ge 43, 3) := by decide +kernel
theorem dX8_lay_132 : decode cX8_lay 132 = .ok (.iload_n 3, 1) := by decide +kernel
theorem dX8_lay_133 : decode cX8_lay 133 = .ok (.aload_n 0, 1) := by decide +kernel
theorem dX8_lay_134 : decode cX8_lay 134 = .ok (.getfield 106, 3) := by decide +kernel
theorem dX8_lay_137 : decode cX8_lay 137 = .ok (.iload 4, 2) := by decide +kernel
theorem dX8_lay_139 : decode cX8_lay 139 = .ok (.iaload, 1) := by decide +kernel
theorem dX8_lay_140 : decode cX8_lay 140 = .ok (.ifCond .lt 23, 3) := by decide +kernel
theorem dX8_lay_143 : decode cX8_lay 143 = .ok (.aload_n 0, 1) := by decide +kernel
theorem dX8_lay_144 : decode cX8_lay 144 = .ok (.getfield 106, 3) := by decide +kernel
theorem dX8_lay_147 : decode cX8_lay 147 = .ok (.iload 4, 2) := by decide +kernel
theorem dX8_lay_149 : decode cX8_lay 149 = .ok (.iaload, 1) := by decide +kernel
theorem dX8_lay_150 : decode cX8_lay 150 = .ok (.aload_n 0, 1) := by decide +kernel
theorem dX8_lay_151 : decode cX8_lay 151 = .ok (.iload 4, 2) := by decide +kernel
theorem dX8_lay_153 : decode cX8_lay 153 = .ok (.invokevirtual 146, 3) := by decide +kernel
theorem dX8_lay_156 : decode cX8_lay 156 = .ok (.if_icmp .eq 7, 3) := by decide +kernel
theorem dX8_lay_159 : decode cX8_lay 159 = .ok (.iconst 1, 1) := by decide +kernel
theorem dX8_lay_160 : decode cX8_lay 160 = .ok (.goto 4, 3) := by decide +kernel
theorem dX8_lay_163 : decode cX8_lay 163 = .ok (.iconst 0, 1) := by decide +kernel
theorem dX8_lay_164 : decode cX8_lay 164 = .ok (.iadd, 1) := by decide +kernel
theorem dX8_lay_165 : decode cX8_lay 165 = .ok (.istore_n 3, 1) := by decide +kernel
theorem dX8_lay_166 : decode cX8_lay 166 = .ok (.iinc 4 1, 3) := by decide +kernel
theorem dX8_lay_169 : decode cX8_lay 169 = .ok (.goto (-46), 3) := by decide +kernel
theorem dX8_lay_172 : decode cX8_lay 172 = .ok (.iload_n 3, 1) := by decide +kernel
theorem dX8_lay_173 : decode cX8_lay 173 = .ok (.ireturn, 1) := by decide +kernel
theorem dX8_tide_0 : decode cX8_tide 0 = .ok (.iload_n 1, 1) := by decide +kernel
theorem dX8_tide_1 : decode cX8_tide 1 = .ok (.iconst 0, 1) := by decide +kernel
theorem dX8_tide_2 : decode cX8_tide 2 = .ok (.ldc 56, 2) := by decide +kernel
theorem dX8_tide_4 : decode cX8_tide 4 = .ok (.invokestatic 118, 3) := by decide +kernel
theorem dX8_tide_7 : decode cX8_tide 7 = .ok (.ifCond .ne 10, 3) := by decide +kernel
theorem dX8_tide_10 : decode cX8_tide 10 = .ok (.aload_n 0, 1) := by decide +kernel
theorem dX8_tide_11 : decode cX8_tide 11 = .ok (.ldc 125, 2) := by decide +kernel
theorem dX8_tide_13 : decode cX8_tide 13 = .ok (.invokevirtual 126, 3) := by decide +kernel
theorem dX8_tide_16 : decode cX8_tide 16 = .ok (.ireturn, 1) := by decide +kernel
theorem dX8_tide_17 : decode cX8_tide 17 = .ok (.aload_n 0, 1) := by decide +kernel
theorem dX8_tide_18 : decode cX8_tide 18 = .ok (.getfield 57, 3) := by decide +kernel
theorem dX8_tide_21 : decode cX8_tide 21 = .ok (.istore_n 2, 1) := by decide +kernel
theorem dX8_tide_22 : decode cX8_tide 22 = .ok (.aload_n 0, 1) := by decide +kernel
theorem dX8_tide_23 : decode cX8_tide 23 = .ok (.iload_n 1, 1) := by decide +kernel
theorem dX8_tide_24 : decode cX8_tide 24 = .ok (.putfield 57, 3) := by decide +kernel
theorem dX8_tide_27 : decode cX8_tide 27 = .ok (.iload_n 2, 1) := by decide +kernel
theorem dX8_tide_28 : decode cX8_tide 28 = .ok (.ireturn, 1) := by decide +kernel
theorem dX8_outside_0 : decode cX8_outside 0 = .ok (.iload_n 1, 1) := by decide +kernel
theorem dX8_outside_1 : decode cX8_outside 1 = .ok (.bipush 6, 2) := by decide +kernel
theorem dX8_outside_3 : decode cX8_outside 3 = .ok (.idiv, 1) := by decide +kernel
theorem dX8_outside_4 : decode cX8_outside 4 = .ok (.istore_n 2, 1) := by decide +kernel
theorem dX8_outside_5 : decode cX8_outside 5 = .ok (.iload_n 1, 1) := by decide +kernel
theorem dX8_outside_6 : decode cX8_outside 6 = .ok (.istore_n 3, 1) := by decide +kernel
theorem dX8_outside_7 : decode cX8_outside 7 = .ok (.iload_n 3, 1) := by decide +kernel
theorem dX8_outside_8 : decode cX8_outside 8 = .ok (.bipush 6, 2) := by decide +kernel
theorem dX8_outside_10 : decode cX8_outside 10 = .ok (.iload_n 2, 1) := by decide +kernel
theorem dX8_outside_11 : decode cX8_outside 11 = .ok (.imul, 1) := by decide +kernel
theorem dX8_outside_12 : decode cX8_outside 12 = .ok (.aload_n 0, 1) := by decide +kernel
theorem dX8_outside_13 : decode cX8_outside 13 = .ok (.getfield 50, 3) := by decide +kernel
theorem dX8_outside_16 : decode cX8_outside 16 = .ok (.iload_n 2, 1) := by decide +kernel
theorem dX8_outside_17 : decode cX8_outside 17 = .ok (.iaload, 1) := by decide +kernel
theorem dX8_outside_18 : decode cX8_outside 18 = .ok (.iadd, 1) := by decide +kernel
theorem dX8_outside_19 : decode cX8_outside 19 = .ok (.if_icmp .ge 32, 3) := by decide +kernel
theorem dX8_outside_22 : decode cX8_outside 22 = .ok (.aload_n 0, 1) := by decide +kernel
theorem dX8_outside_23 : decode cX8_outside 23 = .ok (.getfield 41, 3) := by decide +kernel
theorem dX8_outside_26 : decode cX8_outside 26 = .ok (.aload_n 0, 1) := by decide +kernel
theorem dX8_outside_27 : decode cX8_outside 27 = .ok (.getfield 53, 3) := by decide +kernel
theorem dX8_outside_30 : decode cX8_outside 30 = .ok (.iload_n 3, 1) := by decide +kernel
theorem dX8_outside_31 : decode cX8_outside 31 = .ok (.iaload, 1) := by decide +kernel
theorem dX8_outside_32 : decode cX8_outside 32 = .ok (.iaload, 1) := by decide +kernel
theorem dX8_outside_33 : decode cX8_outside 33 = .ok (.aload_n 0, 1) := by decide +kernel
theorem dX8_outside_34 : decode cX8_outside 34 = .ok (.getfield 211, 3) := by decide +kernel
theorem dX8_outside_37 : decode cX8_outside 37 = .ok (.ishr, 1) := by decide +kernel
theorem dX8_outside_38 : decode cX8_outside 38 = .ok (.iconst 1, 1) := by decide +kernel
theorem dX8_outside_39 : decode cX8_outside 39 = .ok (.iand, 1) := by decide +kernel
theorem dX8_outside_40 : decode cX8_outside 40 = .ok (.ifCond .ne 5, 3) := by decide +kernel
theorem dX8_outside_43 : decode cX8_outside 43 = .ok (.iconst (-1), 1) := by decide +kernel
theorem dX8_outside_44 : decode cX8_outside 44 = .ok (.ireturn, 1) := by decide +kernel
theorem dX8_outside_45 : decode cX8_outside 45 = .ok (.iinc 3 1, 3) := by decide +kernel
theorem dX8_outside_48 : decode cX8_outside 48 = .ok (.goto (-41), 3) := by decide +kernel
theorem dX8_outside_51 : decode cX8_outside 51 = .ok (.aload_n 0, 1) := by decide +kernel
theorem dX8_outside_52 : decode cX8_outside 52 = .ok (.getfield 50, 3) := by decide +kernel
theorem dX8_outside_55 : decode cX8_outside 55 = .ok (.iload_n 2, 1) := by decide +kernel
theorem dX8_outside_56 : decode cX8_outside 56 = .ok (.iaload, 1) := by decide +kernel
theorem dX8_outside_57 : decode cX8_outside 57 = .ok (.iload_n 1, 1) := by decide +kernel
theorem dX8_outside_58 : decode cX8_outside 58 = .ok (.bipush 6, 2) := by decide +kernel
theorem dX8_outside_60 : decode cX8_outside 60 = .ok (.irem, 1) := by decide +kernel
theorem dX8_outside_61 : decode cX8_outside 61 = .ok (.isub, 1) := by decide +kernel
theorem dX8_outside_62 : decode cX8_outside 62 = .ok (.iconst 1, 1) := by decide +kernel
theorem dX8_outside_63 : decode cX8_outside 63 = .ok (.isub, 1) := by decide +kernel
theorem dX8_outside_64 : decode cX8_outside 64 = .ok (.ireturn, 1) := by decide +kernel
theorem dX8_nextToLeave_0 : decode cX8_nextToLeave 0 = .ok (.iconst (-1), 1) := by decide +kernel
theorem dX8_nextToLeave_1 : decode cX8_nextToLeave 1 = .ok (.istore_n 1, 1) := by decide +kernel
theorem dX8_nextToLeave_2 : decode cX8_nextToLeave 2 = .ok (.iconst 0, 1) := by decide +kernel
theorem dX8_nextToLeave_3 : decode cX8_nextToLeave 3 = .ok (.istore_n 2, 1) := by decide +kernel
theorem dX8_nextToLeave_4 : decode cX8_nextToLeave 4 = .ok (.iconst 0, 1) := by decide +kernel
theorem dX8_nextToLeave_5 : decode cX8_nextToLeave 5 = .ok (.istore_n 3, 1) := by decide +kernel
theorem dX8_nextToLeave_6 : decode cX8_nextToLeave 6 = .ok (.iload_n 3, 1) := by decide +kernel
theorem dX8_nextToLeave_7 : decode cX8_nextToLeave 7 = .ok (.aload_n 0, 1) := by decide +kernel
theorem dX8_nextToLeave_8 : decode cX8_nextToLeave 8 = .ok (.getfield 122, 3) := by decide +kernel
theorem dX8_nextToLeave_11 : decode cX8_nextToLeave 11 = .ok (.if_icmp .ge 66, 3) := by decide +kernel
theorem dX8_nextToLeave_14 : decode cX8_nextToLeave 14 = .ok (.aload_n 0, 1) := by decide +kernel
theorem dX8_nextToLeave_15 : decode cX8_nextToLeave 15 = .ok (.iload_n 3, 1) := by decide +kernel
theorem dX8_nextToLeave_16 : decode cX8_nextToLeave 16 = .ok (.invokevirtual 146, 3) := by decide +kernel
theorem dX8_nextToLeave_19 : decode cX8_nextToLeave 19 = .ok (.istore 4, 2) := by decide +kernel
theorem dX8_nextToLeave_21 : decode cX8_nextToLeave 21 = .ok (.iload 4, 2) := by decide +kernel
theorem dX8_nextToLeave_23 : decode cX8_nextToLeave 23 = .ok (.ifCond .lt 16, 3) := by decide +kernel
theorem dX8_nextToLeave_26 : decode cX8_nextToLeave 26 = .ok (.aload_n 0, 1) := by decide +kernel
theorem dX8_nextToLeave_27 : decode cX8_nextToLeave 27 = .ok (.getfield 35, 3) := by decide +kernel
theorem dX8_nextToLeave_30 : decode cX8_nextToLeave 30 = .ok (.iload_n 3, 1) := by decide +kernel
theorem dX8_nextToLeave_31 : decode cX8_nextToLeave 31 = .ok (.iaload, 1) := by decide +kernel
theorem dX8_nextToLeave_32 : decode cX8_nextToLeave 32 = .ok (.aload_n 0, 1) := by decide +kernel
theorem dX8_nextToLeave_33 : decode cX8_nextToLeave 33 = .ok (.getfield 211, 3) := by decide +kernel
theorem dX8_nextToLeave_36 : decode cX8_nextToLeave 36 = .ok (.if_icmp .le 7, 3) := by decide +kernel
theorem dX8_nextToLeave_39 : decode cX8_nextToLeave 39 = .ok (.iconst (-1), 1) := by decide +kernel
theorem dX8_nextToLeave_40 : decode cX8_nextToLeave 40 = .ok (.goto 9, 3) := by decide +kernel
theorem dX8_nextToLeave_43 : decode cX8_nextToLeave 43 = .ok (.aload_n 0, 1) := by decide +kernel
theorem dX8_nextToLeave_44 : decode cX8_nextToLeave 44 = .ok (.iload 4, 2) := by decide +kernel
theorem dX8_nextToLeave_46 : decode cX8_nextToLeave 46 = .ok (.invokevirtual 214, 3) := by decide +kernel
theorem dX8_nextToLeave_49 : decode cX8_nextToLeave 49 = .ok (.istore 5, 2) := by decide +kernel
theorem dX8_nextToLeave_51 : decode cX8_nextToLeave 51 = .ok (.iload 5, 2) := by decide +kernel
theorem dX8_nextToLeave_53 : decode cX8_nextToLeave 53 = .ok (.ifCond .lt 18, 3) := by decide +kernel
theorem dX8_nextToLeave_56 : decode cX8_nextToLeave 56 = .ok (.iload_n 1, 1) := by decide +kernel
theorem dX8_nextToLeave_57 : decode cX8_nextToLeave 57 = .ok (.ifCond .lt 9, 3) := by decide +kernel
theorem dX8_nextToLeave_60 : decode cX8_nextToLeave 60 = .ok (.iload 5, 2) := by decide +kernel
theorem dX8_nextToLeave_62 : decode cX8_nextToLeave 62 = .ok (.iload_n 2, 1) := by decide +kernel
theorem dX8_nextToLeave_63 : decode cX8_nextToLeave 63 = .ok (.if_icmp .ge 8, 3) := by decide +kernel
theorem dX8_nextToLeave_66 : decode cX8_nextToLeave 66 = .ok (.iload_n 3, 1) := by decide +kernel
theorem dX8_nextToLeave_67 : decode cX8_nextToLeave 67 = .ok (.istore_n 1, 1) := by decide +kernel
theorem dX8_nextToLeave_68 : decode cX8_nextToLeave 68 = .ok (.iload 5, 2) := by decide +kernel
theorem dX8_nextToLeave_70 : decode cX8_nextToLeave 70 = .ok (.istore_n 2, 1) := by decide +kernel
theorem dX8_nextToLeave_71 : decode cX8_nextToLeave 71 = .ok (.iinc 3 1, 3) := by decide +kernel
theorem dX8_nextToLeave_74 : decode cX8_nextToLeave 74 = .ok (.goto (-68), 3) := by decide +kernel
theorem dX8_nextToLeave_77 : decode cX8_nextToLeave 77 = .ok (.iload_n 1, 1) := by decide +kernel
theorem dX8_nextToLeave_78 : decode cX8_nextToLeave 78 = .ok (.ireturn, 1) := by decide +kernel
theorem dX8_doHour_0 : decode cX8_doHour 0 = .ok (.iconst 0, 1) := by decide +kernel
theorem dX8_doHour_1 : decode cX8_doHour 1 = .ok (.istore_n 1, 1) := by decide +kernel
theorem dX8_doHour_2 : decode cX8_doHour 2 = .ok (.aload_n 0, 1) := by decide +kernel
theorem dX8_doHour_3 : decode cX8_doHour 3 = .ok (.getfield 57, 3) := by decide +kernel
theorem dX8_doHour_6 : decode cX8_doHour 6 = .ok (.aload_n 0, 1) := by decide +kernel
theorem dX8_doHour_7 : decode cX8_doHour 7 = .ok (.getfield 211, 3) := by decide +kernel
theorem dX8_doHour_10 : decode cX8_doHour 10 = .ok (.ishr, 1) := by decide +kernel
theorem dX8_doHour_11 : decode cX8_doHour 11 = .ok (.iconst 1, 1) := by decide +kernel
theorem dX8_doHour_12 : decode cX8_doHour 12 = .ok (.iand, 1) := by decide +kernel
theorem dX8_doHour_13 : decode cX8_doHour 13 = .ok (.iconst 1, 1) := by decide +kernel
theorem dX8_doHour_14 : decode cX8_doHour 14 = .ok (.if_icmp .ne 7, 3) := by decide +kernel
theorem dX8_doHour_17 : decode cX8_doHour 17 = .ok (.iconst 1, 1) := by decide +kernel
theorem dX8_doHour_18 : decode cX8_doHour 18 = .ok (.goto 4, 3) := by decide +kernel
theorem dX8_doHour_21 : decode cX8_doHour 21 = .ok (.iconst 0, 1) := by decide +kernel
theorem dX8_doHour_22 : decode cX8_doHour 22 = .ok (.istore_n 2, 1) := by decide +kernel
theorem dX8_doHour_23 : decode cX8_doHour 23 = .ok (.iload_n 2, 1) := by decide +kernel
theorem dX8_doHour_24 : decode cX8_doHour 24 = .ok (.ifCond .eq 39, 3) := by decide +kernel
theorem dX8_doHour_27 : decode cX8_doHour 27 = .ok (.aload_n 0, 1) := by decide +kernel
theorem dX8_doHour_28 : decode cX8_doHour 28 = .ok (.invokevirtual 217, 3) := by decide +kernel
theorem dX8_doHour_31 : decode cX8_doHour 31 = .ok (.istore_n 3, 1) := by decide +kernel
theorem dX8_doHour_32 : decode cX8_doHour 32 = .ok (.iload_n 3, 1) := by decide +kernel
theorem dX8_doHour_33 : decode cX8_doHour 33 = .ok (.ifCond .lt 7, 3) := by decide +kernel
theorem dX8_doHour_36 : decode cX8_doHour 36 = .ok (.iconst 1, 1) := by decide +kernel
theorem dX8_doHour_37 : decode cX8_doHour 37 = .ok (.goto 4, 3) := by decide +kernel
theorem dX8_doHour_40 : decode cX8_doHour 40 = .ok (.iconst 0, 1) := by decide +kernel
theorem dX8_doHour_41 : decode cX8_doHour 41 = .ok (.istore_n 2, 1) := by decide +kernel
theorem dX8_doHour_42 : decode cX8_doHour 42 = .ok (.iload_n 2, 1) := by decide +kernel
theorem dX8_doHour_43 : decode cX8_doHour 43 = .ok (.ifCond .eq 17, 3) := by decide +kernel
theorem dX8_doHour_46 : decode cX8_doHour 46 = .ok (.aload_n 0, 1) := by decide +kernel
theorem dX8_doHour_47 : decode cX8_doHour 47 = .ok (.aload_n 0, 1) := by decide +kernel
theorem dX8_doHour_48 : decode cX8_doHour 48 = .ok (.iload_n 3, 1) := by decide +kernel
theorem dX8_doHour_49 : decode cX8_doHour 49 = .ok (.invokevirtual 146, 3) := by decide +kernel
theorem dX8_doHour_52 : decode cX8_doHour 52 = .ok (.invokevirtual 175, 3) := by decide +kernel
theorem dX8_doHour_55 : decode cX8_doHour 55 = .ok (.istore 4, 2) := by decide +kernel
theorem dX8_doHour_57 : decode cX8_doHour 57 = .ok (.iinc 1 1, 3) := by decide +kernel
theorem dX8_doHour_60 : decode cX8_doHour 60 = .ok (.goto (-37), 3) := by decide +kernel
theorem dX8_doHour_63 : decode cX8_doHour 63 = .ok (.iconst 0, 1) := by decide +kernel
