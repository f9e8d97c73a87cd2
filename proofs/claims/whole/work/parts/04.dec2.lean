theorem dX8_init_0 : decode cX8_init 0 = .ok (.aload_n 0, 1) := by decide +kernel
theorem dX8_init_1 : decode cX8_init 1 = .ok (.invokespecial 3, 3) := by decide +kernel
theorem dX8_init_4 : decode cX8_init 4 = .ok (.aload_n 0, 1) := by decide +kernel
theorem dX8_init_5 : decode cX8_init 5 = .ok (.bipush 40, 2) := by decide +kernel
theorem dX8_init_7 : decode cX8_init 7 = .ok (.newarray .int, 2) := by decide +kernel
theorem dX8_init_9 : decode cX8_init 9 = .ok (.putfield 9, 3) := by decide +kernel
theorem dX8_init_12 : decode cX8_init 12 = .ok (.aload_n 0, 1) := by decide +kernel
theorem dX8_init_13 : decode cX8_init 13 = .ok (.bipush 10, 2) := by decide +kernel
theorem dX8_init_15 : decode cX8_init 15 = .ok (.newarray .int, 2) := by decide +kernel
theorem dX8_init_17 : decode cX8_init 17 = .ok (.putfield 13, 3) := by decide +kernel
theorem dX8_init_20 : decode cX8_init 20 = .ok (.aload_n 0, 1) := by decide +kernel
theorem dX8_init_21 : decode cX8_init 21 = .ok (.bipush 10, 2) := by decide +kernel
theorem dX8_init_23 : decode cX8_init 23 = .ok (.newarray .int, 2) := by decide +kernel
theorem dX8_init_25 : decode cX8_init 25 = .ok (.putfield 16, 3) := by decide +kernel
theorem dX8_init_28 : decode cX8_init 28 = .ok (.aload_n 0, 1) := by decide +kernel
theorem dX8_init_29 : decode cX8_init 29 = .ok (.bipush 10, 2) := by decide +kernel
theorem dX8_init_31 : decode cX8_init 31 = .ok (.newarray .int, 2) := by decide +kernel
theorem dX8_init_33 : decode cX8_init 33 = .ok (.putfield 19, 3) := by decide +kernel
theorem dX8_init_36 : decode cX8_init 36 = .ok (.aload_n 0, 1) := by decide +kernel
theorem dX8_init_37 : decode cX8_init 37 = .ok (.bipush 6, 2) := by decide +kernel
theorem dX8_init_39 : decode cX8_init 39 = .ok (.iconst 3, 1) := by decide +kernel
theorem dX8_init_40 : decode cX8_init 40 = .ok (.multianewarray 22 2, 4) := by decide +kernel
theorem dX8_init_44 : decode cX8_init 44 = .ok (.putfield 24, 3) := by decide +kernel
theorem dX8_init_47 : decode cX8_init 47 = .ok (.aload_n 0, 1) := by decide +kernel
theorem dX8_init_48 : decode cX8_init 48 = .ok (.bipush 6, 2) := by decide +kernel
theorem dX8_init_50 : decode cX8_init 50 = .ok (.newarray .int, 2) := by decide +kernel
theorem dX8_init_52 : decode cX8_init 52 = .ok (.putfield 27, 3) := by decide +kernel
theorem dX8_init_55 : decode cX8_init 55 = .ok (.aload_n 0, 1) := by decide +kernel
theorem dX8_init_56 : decode cX8_init 56 = .ok (.bipush 6, 2) := by decide +kernel
theorem dX8_init_58 : decode cX8_init 58 = .ok (.bipush 36, 2) := by decide +kernel
theorem dX8_init_60 : decode cX8_init 60 = .ok (.multianewarray 22 2, 4) := by decide +kernel
theorem dX8_init_64 : decode cX8_init 64 = .ok (.putfield 30, 3) := by decide +kernel
theorem dX8_init_67 : decode cX8_init 67 = .ok (.aload_n 0, 1) := by decide +kernel
theorem dX8_init_68 : decode cX8_init 68 = .ok (.bipush 6, 2) := by decide +kernel
theorem dX8_init_70 : decode cX8_init 70 = .ok (.bipush 36, 2) := by decide +kernel
theorem dX8_init_72 : decode cX8_init 72 = .ok (.multianewarray 22 2, 4) := by decide +kernel
theorem dX8_init_76 : decode cX8_init 76 = .ok (.putfield 33, 3) := by decide +kernel
theorem dX8_init_79 : decode cX8_init 79 = .ok (.aload_n 0, 1) := by decide +kernel
theorem dX8_init_80 : decode cX8_init 80 = .ok (.bipush 6, 2) := by decide +kernel
theorem dX8_init_82 : decode cX8_init 82 = .ok (.bipush 36, 2) := by decide +kernel
theorem dX8_init_84 : decode cX8_init 84 = .ok (.multianewarray 22 2, 4) := by decide +kernel
theorem dX8_init_88 : decode cX8_init 88 = .ok (.putfield 36, 3) := by decide +kernel
theorem dX8_init_91 : decode cX8_init 91 = .ok (.aload_n 0, 1) := by decide +kernel
theorem dX8_init_92 : decode cX8_init 92 = .ok (.bipush 6, 2) := by decide +kernel
theorem dX8_init_94 : decode cX8_init 94 = .ok (.bipush 36, 2) := by decide +kernel
theorem dX8_init_96 : decode cX8_init 96 = .ok (.multianewarray 22 2, 4) := by decide +kernel
theorem dX8_init_100 : decode cX8_init 100 = .ok (.putfield 39, 3) := by decide +kernel
theorem dX8_init_103 : decode cX8_init 103 = .ok (.aload_n 0, 1) := by decide +kernel
theorem dX8_init_104 : decode cX8_init 104 = .ok (.sipush 4394, 3) := by decide +kernel
theorem dX8_init_107 : decode cX8_init 107 = .ok (.newarray .boolean, 2) := by decide +kernel
theorem dX8_init_109 : decode cX8_init 109 = .ok (.putfield 42, 3) := by decide +kernel
theorem dX8_init_112 : decode cX8_init 112 = .ok (.aload_n 0, 1) := by decide +kernel
theorem dX8_init_113 : decode cX8_init 113 = .ok (.sipush 4394, 3) := by decide +kernel
theorem dX8_init_116 : decode cX8_init 116 = .ok (.newarray .boolean, 2) := by decide +kernel
theorem dX8_init_118 : decode cX8_init 118 = .ok (.putfield 46, 3) := by decide +kernel
theorem dX8_init_121 : decode cX8_init 121 = .ok (.aload_n 0, 1) := by decide +kernel
theorem dX8_init_122 : decode cX8_init 122 = .ok (.sipush 4394, 3) := by decide +kernel
theorem dX8_init_125 : decode cX8_init 125 = .ok (.newarray .boolean, 2) := by decide +kernel
theorem dX8_init_127 : decode cX8_init 127 = .ok (.putfield 49, 3) := by decide +kernel
theorem dX8_init_130 : decode cX8_init 130 = .ok (.aload_n 0, 1) := by decide +kernel
theorem dX8_init_131 : decode cX8_init 131 = .ok (.sipush 4394, 3) := by decide +kernel
theorem dX8_init_134 : decode cX8_init 134 = .ok (.newarray .int, 2) := by decide +kernel
theorem dX8_init_136 : decode cX8_init 136 = .ok (.putfield 52, 3) := by decide +kernel
theorem dX8_init_139 : decode cX8_init 139 = .ok (.aload_n 0, 1) := by decide +kernel
theorem dX8_init_140 : decode cX8_init 140 = .ok (.sipush 4394, 3) := by decide +kernel
theorem dX8_init_143 : decode cX8_init 143 = .ok (.newarray .int, 2) := by decide +kernel
theorem dX8_init_145 : decode cX8_init 145 = .ok (.putfield 55, 3) := by decide +kernel
theorem dX8_init_148 : decode cX8_init 148 = .ok (.aload_n 0, 1) := by decide +kernel
theorem dX8_init_149 : decode cX8_init 149 = .ok (.sipush 4394, 3) := by decide +kernel
theorem dX8_init_152 : decode cX8_init 152 = .ok (.newarray .int, 2) := by decide +kernel
theorem dX8_init_154 : decode cX8_init 154 = .ok (.putfield 58, 3) := by decide +kernel
theorem dX8_init_157 : decode cX8_init 157 = .ok (.aload_n 0, 1) := by decide +kernel
theorem dX8_init_158 : decode cX8_init 158 = .ok (.iconst 3, 1) := by decide +kernel
theorem dX8_init_159 : decode cX8_init 159 = .ok (.newarray .int, 2) := by decide +kernel
theorem dX8_init_161 : decode cX8_init 161 = .ok (.putfield 61, 3) := by decide +kernel
theorem dX8_init_164 : decode cX8_init 164 = .ok (.aload_n 0, 1) := by decide +kernel
theorem dX8_init_165 : decode cX8_init 165 = .ok (.iconst 3, 1) := by decide +kernel
theorem dX8_init_166 : decode cX8_init 166 = .ok (.newarray .int, 2) := by decide +kernel
theorem dX8_init_168 : decode cX8_init 168 = .ok (.putfield 64, 3) := by decide +kernel
theorem dX8_init_171 : decode cX8_init 171 = .ok (.aload_n 0, 1) := by decide +kernel
theorem dX8_init_172 : decode cX8_init 172 = .ok (.iconst (-1), 1) := by decide +kernel
theorem dX8_init_173 : decode cX8_init 173 = .ok (.putfield 67, 3) := by decide +kernel
theorem dX8_init_176 : decode cX8_init 176 = .ok (.aload_n 0, 1) := by decide +kernel
theorem dX8_init_177 : decode cX8_init 177 = .ok (.bipush 41, 2) := by decide +kernel
theorem dX8_init_179 : decode cX8_init 179 = .ok (.newarray .int, 2) := by decide +kernel
theorem dX8_init_181 : decode cX8_init 181 = .ok (.putfield 71, 3) := by decide +kernel
theorem dX8_init_184 : decode cX8_init 184 = .ok (.aload_n 0, 1) := by decide +kernel
theorem dX8_init_185 : decode cX8_init 185 = .ok (.bipush 41, 2) := by decide +kernel
theorem dX8_init_187 : decode cX8_init 187 = .ok (.newarray .int, 2) := by decide +kernel
theorem dX8_init_189 : decode cX8_init 189 = .ok (.putfield 74, 3) := by decide +kernel
theorem dX8_init_192 : decode cX8_init 192 = .ok (.aload_n 0, 1) := by decide +kernel
theorem dX8_init_193 : decode cX8_init 193 = .ok (.bipush 41, 2) := by decide +kernel
theorem dX8_init_195 : decode cX8_init 195 = .ok (.newarray .boolean, 2) := by decide +kernel
theorem dX8_init_197 : decode cX8_init 197 = .ok (.putfield 77, 3) := by decide +kernel
theorem dX8_init_200 : decode cX8_init 200 = .ok (.aload_n 0, 1) := by decide +kernel
theorem dX8_init_201 : decode cX8_init 201 = .ok (.bipush 41, 2) := by decide +kernel
theorem dX8_init_203 : decode cX8_init 203 = .ok (.newarray .boolean, 2) := by decide +kernel
theorem dX8_init_205 : decode cX8_init 205 = .ok (.putfield 80, 3) := by decide +kernel
theorem dX8_init_208 : decode cX8_init 208 = .ok (.aload_n 0, 1) := by decide +kernel
theorem dX8_init_209 : decode cX8_init 209 = .ok (.bipush 61, 2) := by decide +kernel
theorem dX8_init_211 : decode cX8_init 211 = .ok (.newarray .int, 2) := by decide +kernel
theorem dX8_init_213 : decode cX8_init 213 = .ok (.putfield 83, 3) := by decide +kernel
theorem dX8_init_216 : decode cX8_init 216 = .ok (.return_, 1) := by decide +kernel
theorem dX8_isBetween_0 : decode cX8_isBetween 0 = .ok (.iload_n 0, 1) := by decide +kernel
theorem dX8_isBetween_1 : decode cX8_isBetween 1 = .ok (.iload_n 1, 1) := by decide +kernel
theorem dX8_isBetween_2 : decode cX8_isBetween 2 = .ok (.if_icmp .lt 12, 3) := by decide +kernel
theorem dX8_isBetween_5 : decode cX8_isBetween 5 = .ok (.iload_n 0, 1) := by decide +kernel
theorem dX8_isBetween_6 : decode cX8_isBetween 6 = .ok (.iload_n 2, 1) := by decide +kernel
theorem dX8_isBetween_7 : decode cX8_isBetween 7 = .ok (.if_icmp .gt 7, 3) := by decide +kernel
theorem dX8_isBetween_10 : decode cX8_isBetween 10 = .ok (.iconst 1, 1) := by decide +kernel
theorem dX8_isBetween_11 : decode cX8_isBetween 11 = .ok (.goto 4, 3) := by decide +kernel
theorem dX8_isBetween_14 : decode cX8_isBetween 14 = .ok (.iconst 0, 1) := by decide +kernel
theorem dX8_isBetween_15 : decode cX8_isBetween 15 = .ok (.ireturn, 1) := by decide +kernel
theorem dX8_has_0 : decode cX8_has 0 = .ok (.iload_n 0, 1) := by decide +kernel
theorem dX8_has_1 : decode cX8_has 1 = .ok (.iload_n 1, 1) := by decide +kernel
theorem dX8_has_2 : decode cX8_has 2 = .ok (.ishr, 1) := by decide +kernel
theorem dX8_has_3 : decode cX8_has 3 = .ok (.iconst 1, 1) := by decide +kernel
theorem dX8_has_4 : decode cX8_has 4 = .ok (.iand, 1) := by decide +kernel
theorem dX8_has_5 : decode cX8_has 5 = .ok (.iconst 1, 1) := by decide +kernel
theorem dX8_has_6 : decode cX8_has 6 = .ok (.if_icmp .ne 7, 3) := by decide +kernel
theorem dX8_has_9 : decode cX8_has 9 = .ok (.iconst 1, 1) := by decide +kernel
theorem dX8_has_10 : decode cX8_has 10 = .ok (.goto 4, 3) := by decide +kernel
theorem dX8_has_13 : decode cX8_has 13 = .ok (.iconst 0, 1) := by decide +kernel
theorem dX8_has_14 : decode cX8_has 14 = .ok (.ireturn, 1) := by decide +kernel
theorem dX8_isByte_0 : decode cX8_isByte 0 = .ok (.iload_n 0, 1) := by decide +kernel
theorem dX8_isByte_1 : decode cX8_isByte 1 = .ok (.iconst 0, 1) := by decide +kernel
theorem dX8_isByte_2 : decode cX8_isByte 2 = .ok (.bipush 127, 2) := by decide +kernel
theorem dX8_isByte_4 : decode cX8_isByte 4 = .ok (.invokestatic 86, 3) := by decide +kernel
theorem dX8_isByte_7 : decode cX8_isByte 7 = .ok (.ireturn, 1) := by decide +kernel
theorem dX8_feed_0 : decode cX8_feed 0 = .ok (.iload_n 1, 1) := by decide +kernel
theorem dX8_feed_1 : decode cX8_feed 1 = .ok (.iconst 1, 1) := by decide +kernel
theorem dX8_feed_2 : decode cX8_feed 2 = .ok (.iconst 5, 1) := by decide +kernel
theorem dX8_feed_3 : decode cX8_feed 3 = .ok (.invokestatic 86, 3) := by decide +kernel
theorem dX8_feed_6 : decode cX8_feed 6 = .ok (.ifCond .eq 41, 3) := by decide +kernel
theorem dX8_feed_9 : decode cX8_feed 9 = .ok (.iload_n 2, 1) := by decide +kernel
theorem dX8_feed_10 : decode cX8_feed 10 = .ok (.invokestatic 90, 3) := by decide +kernel
theorem dX8_feed_13 : decode cX8_feed 13 = .ok (.ifCond .eq 34, 3) := by decide +kernel
theorem dX8_feed_16 : decode cX8_feed 16 = .ok (.iload_n 3, 1) := by decide +kernel
theorem dX8_feed_17 : decode cX8_feed 17 = .ok (.invokestatic 90, 3) := by decide +kernel
theorem dX8_feed_20 : decode cX8_feed 20 = .ok (.ifCond .eq 27, 3) := by decide +kernel
theorem dX8_feed_23 : decode cX8_feed 23 = .ok (.iload 4, 2) := by decide +kernel
theorem dX8_feed_25 : decode cX8_feed 25 = .ok (.invokestatic 90, 3) := by decide +kernel
theorem dX8_feed_28 : decode cX8_feed 28 = .ok (.ifCond .eq 19, 3) := by decide +kernel
theorem dX8_feed_31 : decode cX8_feed 31 = .ok (.iload 5, 2) := by decide +kernel
theorem dX8_feed_33 : decode cX8_feed 33 = .ok (.invokestatic 90, 3) := by decide +kernel
theorem dX8_feed_36 : decode cX8_feed 36 = .ok (.ifCond .eq 11, 3) := by decide +kernel
theorem dX8_feed_39 : decode cX8_feed 39 = .ok (.iload 6, 2) := by decide +kernel
theorem dX8_feed_41 : decode cX8_feed 41 = .ok (.invokestatic 90, 3) := by decide +kernel
theorem dX8_feed_44 : decode cX8_feed 44 = .ok (.ifCond .ne 6, 3) := by decide +kernel
theorem dX8_feed_47 : decode cX8_feed 47 = .ok (.bipush (-2), 2) := by decide +kernel
theorem dX8_feed_49 : decode cX8_feed 49 = .ok (.ireturn, 1) := by decide +kernel
theorem dX8_feed_50 : decode cX8_feed 50 = .ok (.aload_n 0, 1) := by decide +kernel
theorem dX8_feed_51 : decode cX8_feed 51 = .ok (.getfield 94, 3) := by decide +kernel
theorem dX8_feed_54 : decode cX8_feed 54 = .ok (.iload_n 1, 1) := by decide +kernel
theorem dX8_feed_55 : decode cX8_feed 55 = .ok (.iadd, 1) := by decide +kernel
theorem dX8_feed_56 : decode cX8_feed 56 = .ok (.bipush 40, 2) := by decide +kernel
theorem dX8_feed_58 : decode cX8_feed 58 = .ok (.if_icmp .le 6, 3) := by decide +kernel
theorem dX8_feed_61 : decode cX8_feed 61 = .ok (.bipush (-4), 2) := by decide +kernel
theorem dX8_feed_63 : decode cX8_feed 63 = .ok (.ireturn, 1) := by decide +kernel
theorem dX8_feed_64 : decode cX8_feed 64 = .ok (.iconst 5, 1) := by decide +kernel
theorem dX8_feed_65 : decode cX8_feed 65 = .ok (.newarray .int, 2) := by decide +kernel
theorem dX8_feed_67 : decode cX8_feed 67 = .ok (.dup, 1) := by decide +kernel
theorem dX8_feed_68 : decode cX8_feed 68 = .ok (.iconst 0, 1) := by decide +kernel
theorem dX8_feed_69 : decode cX8_feed 69 = .ok (.iload_n 2, 1) := by decide +kernel
theorem dX8_feed_70 : decode cX8_feed 70 = .ok (.iastore, 1) := by decide +kernel
theorem dX8_feed_71 : decode cX8_feed 71 = .ok (.dup, 1) := by decide +kernel
theorem dX8_feed_72 : decode cX8_feed 72 = .ok (.iconst 1, 1) := by decide +kernel
theorem dX8_feed_73 : decode cX8_feed 73 = .ok (.iload_n 3, 1) := by decide +kernel
theorem dX8_feed_74 : decode cX8_feed 74 = .ok (.iastore, 1) := by decide +kernel
theorem dX8_feed_75 : decode cX8_feed 75 = .ok (.dup, 1) := by decide +kernel
theorem dX8_feed_76 : decode cX8_feed 76 = .ok (.iconst 2, 1) := by decide +kernel
theorem dX8_feed_77 : decode cX8_feed 77 = .ok (.iload 4, 2) := by decide +kernel
theorem dX8_feed_79 : decode cX8_feed 79 = .ok (.iastore, 1) := by decide +kernel
theorem dX8_feed_80 : decode cX8_feed 80 = .ok (.dup, 1) := by decide +kernel
theorem dX8_feed_81 : decode cX8_feed 81 = .ok (.iconst 3, 1) := by decide +kernel
theorem dX8_feed_82 : decode cX8_feed 82 = .ok (.iload 5, 2) := by decide +kernel
theorem dX8_feed_84 : decode cX8_feed 84 = .ok (.iastore, 1) := by decide +kernel
theorem dX8_feed_85 : decode cX8_feed 85 = .ok (.dup, 1) := by decide +kernel
theorem dX8_feed_86 : decode cX8_feed 86 = .ok (.iconst 4, 1) := by decide +kernel
theorem dX8_feed_87 : decode cX8_feed 87 = .ok (.iload 6, 2) := by decide +kernel
theorem dX8_feed_89 : decode cX8_feed 89 = .ok (.iastore, 1) := by decide +kernel
theorem dX8_feed_90 : decode cX8_feed 90 = .ok (.astore 7, 2) := by decide +kernel
theorem dX8_feed_92 : decode cX8_feed 92 = .ok (.iconst 0, 1) := by decide +kernel
theorem dX8_feed_93 : decode cX8_feed 93 = .ok (.istore 8, 2) := by decide +kernel
theorem dX8_feed_95 : decode cX8_feed 95 = .ok (.iload 8, 2) := by decide +kernel
theorem dX8_feed_97 : decode cX8_feed 97 = .ok (.iload_n 1, 1) := by decide +kernel
theorem dX8_feed_98 : decode cX8_feed 98 = .ok (.if_icmp .ge 33, 3) := by decide +kernel
theorem dX8_feed_101 : decode cX8_feed 101 = .ok (.aload_n 0, 1) := by decide +kernel
theorem dX8_feed_102 : decode cX8_feed 102 = .ok (.getfield 9, 3) := by decide +kernel
theorem dX8_feed_105 : decode cX8_feed 105 = .ok (.aload_n 0, 1) := by decide +kernel
theorem dX8_feed_106 : decode cX8_feed 106 = .ok (.getfield 94, 3) := by decide +kernel
theorem dX8_feed_109 : decode cX8_feed 109 = .ok (.aload 7, 2) := by decide +kernel
theorem dX8_feed_111 : decode cX8_feed 111 = .ok (.iload 8, 2) := by decide +kernel
theorem dX8_feed_113 : decode cX8_feed 113 = .ok (.iaload, 1) := by decide +kernel
theorem dX8_feed_114 : decode cX8_feed 114 = .ok (.iastore, 1) := by decide +kernel
theorem dX8_feed_115 : decode cX8_feed 115 = .ok (.aload_n 0, 1) := by decide +kernel
theorem dX8_feed_116 : decode cX8_feed 116 = .ok (.dup, 1) := by decide +kernel
theorem dX8_feed_117 : decode cX8_feed 117 = .ok (.getfield 94, 3) := by decide +kernel
theorem dX8_feed_120 : decode cX8_feed 120 = .ok (.iconst 1, 1) := by decide +kernel
theorem dX8_feed_121 : decode cX8_feed 121 = .ok (.iadd, 1) := by decide +kernel
theorem dX8_feed_122 : decode cX8_feed 122 = .ok (.putfield 94, 3) := by decide +kernel
theorem dX8_feed_125 : decode cX8_feed 125 = .ok (.iinc 8 1, 3) := by decide +kernel
theorem dX8_feed_128 : decode cX8_feed 128 = .ok (.goto (-33), 3) := by decide +kernel
theorem dX8_feed_131 : decode cX8_feed 131 = .ok (.aload_n 0, 1) := by decide +kernel
theorem dX8_feed_132 : decode cX8_feed 132 = .ok (.getfield 94, 3) := by decide +kernel
theorem dX8_feed_135 : decode cX8_feed 135 = .ok (.ireturn, 1) := by decide +kernel
theorem dX8_squares_0 : decode cX8_squares 0 = .ok (.aload_n 0, 1) := by decide +kernel
theorem dX8_squares_1 : decode cX8_squares 1 = .ok (.getfield 13, 3) := by decide +kernel
theorem dX8_squares_4 : decode cX8_squares 4 = .ok (.iconst 0, 1) := by decide +kernel
theorem dX8_squares_5 : decode cX8_squares 5 = .ok (.iaload, 1) := by decide +kernel
theorem dX8_squares_6 : decode cX8_squares 6 = .ok (.aload_n 0, 1) := by decide +kernel
theorem dX8_squares_7 : decode cX8_squares 7 = .ok (.getfield 13, 3) := by decide +kernel
theorem dX8_squares_10 : decode cX8_squares 10 = .ok (.iconst 1, 1) := by decide +kernel
theorem dX8_squares_11 : decode cX8_squares 11 = .ok (.iaload, 1) := by decide +kernel
theorem dX8_squares_12 : decode cX8_squares 12 = .ok (.imul, 1) := by decide +kernel
theorem dX8_squares_13 : decode cX8_squares 13 = .ok (.ireturn, 1) := by decide +kernel
theorem dX8_sees_0 : decode cX8_sees 0 = .ok (.aload_n 0, 1) := by decide +kernel
theorem dX8_sees_1 : decode cX8_sees 1 = .ok (.getfield 97, 3) := by decide +kernel
theorem dX8_sees_4 : decode cX8_sees 4 = .ok (.ifCond .ne 35, 3) := by decide +kernel
theorem dX8_sees_7 : decode cX8_sees 7 = .ok (.aload_n 0, 1) := by decide +kernel
theorem dX8_sees_8 : decode cX8_sees 8 = .ok (.getfield 101, 3) := by decide +kernel
theorem dX8_sees_11 : decode cX8_sees 11 = .ok (.aload_n 0, 1) := by decide +kernel
theorem dX8_sees_12 : decode cX8_sees 12 = .ok (.getfield 94, 3) := by decide +kernel
theorem dX8_sees_15 : decode cX8_sees 15 = .ok (.if_icmp .ge 24, 3) := by decide +kernel
theorem dX8_sees_18 : decode cX8_sees 18 = .ok (.aload_n 0, 1) := by decide +kernel
theorem dX8_sees_19 : decode cX8_sees 19 = .ok (.getfield 9, 3) := by decide +kernel
theorem dX8_sees_22 : decode cX8_sees 22 = .ok (.aload_n 0, 1) := by decide +kernel
theorem dX8_sees_23 : decode cX8_sees 23 = .ok (.getfield 101, 3) := by decide +kernel
theorem dX8_sees_26 : decode cX8_sees 26 = .ok (.iaload, 1) := by decide +kernel
theorem dX8_sees_27 : decode cX8_sees 27 = .ok (.iload_n 1, 1) := by decide +kernel
theorem dX8_sees_28 : decode cX8_sees 28 = .ok (.iload_n 2, 1) := by decide +kernel
theorem dX8_sees_29 : decode cX8_sees 29 = .ok (.invokestatic 86, 3) := by decide +kernel
theorem dX8_sees_32 : decode cX8_sees 32 = .ok (.ifCond .eq 7, 3) := by decide +kernel
theorem dX8_sees_35 : decode cX8_sees 35 = .ok (.iconst 1, 1) := by decide +kernel
theorem dX8_sees_36 : decode cX8_sees 36 = .ok (.goto 4, 3) := by decide +kernel
theorem dX8_sees_39 : decode cX8_sees 39 = .ok (.iconst 0, 1) := by decide +kernel
theorem dX8_sees_40 : decode cX8_sees 40 = .ok (.ireturn, 1) := by decide +kernel
theorem dX8_passes_0 : decode cX8_passes 0 = .ok (.aload_n 0, 1) := by decide +kernel
theorem dX8_passes_1 : decode cX8_passes 1 = .ok (.iload_n 1, 1) := by decide +kernel
theorem dX8_passes_2 : decode cX8_passes 2 = .ok (.iload_n 1, 1) := by decide +kernel
theorem dX8_passes_3 : decode cX8_passes 3 = .ok (.invokevirtual 104, 3) := by decide +kernel
theorem dX8_passes_6 : decode cX8_passes 6 = .ok (.istore_n 2, 1) := by decide +kernel
theorem dX8_passes_7 : decode cX8_passes 7 = .ok (.aload_n 0, 1) := by decide +kernel
theorem dX8_passes_8 : decode cX8_passes 8 = .ok (.dup, 1) := by decide +kernel
theorem dX8_passes_9 : decode cX8_passes 9 = .ok (.getfield 101, 3) := by decide +kernel
theorem dX8_passes_12 : decode cX8_passes 12 = .ok (.iload_n 2, 1) := by decide +kernel
theorem dX8_passes_13 : decode cX8_passes 13 = .ok (.ifCond .eq 7, 3) := by decide +kernel
theorem dX8_passes_16 : decode cX8_passes 16 = .ok (.iconst 1, 1) := by decide +kernel
theorem dX8_passes_17 : decode cX8_passes 17 = .ok (.goto 4, 3) := by decide +kernel
theorem dX8_passes_20 : decode cX8_passes 20 = .ok (.iconst 0, 1) := by decide +kernel
theorem dX8_passes_21 : decode cX8_passes 21 = .ok (.iadd, 1) := by decide +kernel
theorem dX8_passes_22 : decode cX8_passes 22 = .ok (.putfield 101, 3) := by decide +kernel
theorem dX8_passes_25 : decode cX8_passes 25 = .ok (.iload_n 2, 1) := by decide +kernel
theorem dX8_passes_26 : decode cX8_passes 26 = .ok (.ireturn, 1) := by decide +kernel
theorem dX8_passDigit_0 : decode cX8_passDigit 0 = .ok (.aload_n 0, 1) := by decide +kernel
theorem dX8_passDigit_1 : decode cX8_passDigit 1 = .ok (.dup, 1) := by decide +kernel
theorem dX8_passDigit_2 : decode cX8_passDigit 2 = .ok (.getfield 97, 3) := by decide +kernel
theorem dX8_passDigit_5 : decode cX8_passDigit 5 = .ok (.aload_n 0, 1) := by decide +kernel
theorem dX8_passDigit_6 : decode cX8_passDigit 6 = .ok (.iload_n 1, 1) := by decide +kernel
theorem dX8_passDigit_7 : decode cX8_passDigit 7 = .ok (.iload_n 2, 1) := by decide +kernel
theorem dX8_passDigit_8 : decode cX8_passDigit 8 = .ok (.invokevirtual 104, 3) := by decide +kernel
theorem dX8_passDigit_11 : decode cX8_passDigit 11 = .ok (.ifCond .ne 7, 3) := by decide +kernel
theorem dX8_passDigit_14 : decode cX8_passDigit 14 = .ok (.iconst 1, 1) := by decide +kernel
theorem dX8_passDigit_15 : decode cX8_passDigit 15 = .ok (.goto 4, 3) := by decide +kernel
theorem dX8_passDigit_18 : decode cX8_passDigit 18 = .ok (.iconst 0, 1) := by decide +kernel
theorem dX8_passDigit_19 : decode cX8_passDigit 19 = .ok (.ior, 1) := by decide +kernel
theorem dX8_passDigit_20 : decode cX8_passDigit 20 = .ok (.putfield 97, 3) := by decide +kernel
theorem dX8_passDigit_23 : decode cX8_passDigit 23 = .ok (.aload_n 0, 1) := by decide +kernel
theorem dX8_passDigit_24 : decode cX8_passDigit 24 = .ok (.getfield 97, 3) := by decide +kernel
theorem dX8_passDigit_27 : decode cX8_passDigit 27 = .ok (.ifCond .eq 7, 3) := by decide +kernel
theorem dX8_passDigit_30 : decode cX8_passDigit 30 = .ok (.iconst 0, 1) := by decide +kernel
theorem dX8_passDigit_31 : decode cX8_passDigit 31 = .ok (.goto 15, 3) := by decide +kernel
theorem dX8_passDigit_34 : decode cX8_passDigit 34 = .ok (.aload_n 0, 1) := by decide +kernel
theorem dX8_passDigit_35 : decode cX8_passDigit 35 = .ok (.getfield 9, 3) := by decide +kernel
theorem dX8_passDigit_38 : decode cX8_passDigit 38 = .ok (.aload_n 0, 1) := by decide +kernel
theorem dX8_passDigit_39 : decode cX8_passDigit 39 = .ok (.getfield 101, 3) := by decide +kernel
theorem dX8_passDigit_42 : decode cX8_passDigit 42 = .ok (.iaload, 1) := by decide +kernel
theorem dX8_passDigit_43 : decode cX8_passDigit 43 = .ok (.bipush 48, 2) := by decide +kernel
theorem dX8_passDigit_45 : decode cX8_passDigit 45 = .ok (.isub, 1) := by decide +kernel
theorem dX8_passDigit_46 : decode cX8_passDigit 46 = .ok (.istore_n 3, 1) := by decide +kernel
theorem dX8_passDigit_47 : decode cX8_passDigit 47 = .ok (.aload_n 0, 1) := by decide +kernel
theorem dX8_passDigit_48 : decode cX8_passDigit 48 = .ok (.dup, 1) := by decide +kernel
theorem dX8_passDigit_49 : decode cX8_passDigit 49 = .ok (.getfield 101, 3) := by decide +kernel
theorem dX8_passDigit_52 : decode cX8_passDigit 52 = .ok (.aload_n 0, 1) := by decide +kernel
theorem dX8_passDigit_53 : decode cX8_passDigit 53 = .ok (.getfield 97, 3) := by decide +kernel
theorem dX8_passDigit_56 : decode cX8_passDigit 56 = .ok (.ifCond .eq 7, 3) := by decide +kernel
theorem dX8_passDigit_59 : decode cX8_passDigit 59 = .ok (.iconst 0, 1) := by decide +kernel
theorem dX8_passDigit_60 : decode cX8_passDigit 60 = .ok (.goto 4, 3) := by decide +kernel
theorem dX8_passDigit_63 : decode cX8_passDigit 63 = .ok (.iconst 1, 1) := by decide +kernel
theorem dX8_passDigit_64 : decode cX8_passDigit 64 = .ok (.iadd, 1) := by decide +kernel
theorem dX8_passDigit_65 : decode cX8_passDigit 65 = .ok (.putfield 101, 3) := by decide +kernel
theorem dX8_passDigit_68 : decode cX8_passDigit 68 = .ok (.iload_n 3, 1) := by decide +kernel
theorem dX8_passDigit_69 : decode cX8_passDigit 69 = .ok (.ireturn, 1) := by decide +kernel
theorem dX8_letterHere_0 : decode cX8_letterHere 0 = .ok (.aload_n 0, 1) := by decide +kernel
theorem dX8_letterHere_1 : decode cX8_letterHere 1 = .ok (.getfield 97, 3) := by decide +kernel
theorem dX8_letterHere_4 : decode cX8_letterHere 4 = .ok (.ifCond .ne 31, 3) := by decide +kernel
theorem dX8_letterHere_7 : decode cX8_letterHere 7 = .ok (.aload_n 0, 1) := by decide +kernel
theorem dX8_letterHere_8 : decode cX8_letterHere 8 = .ok (.getfield 101, 3) := by decide +kernel
theorem dX8_letterHere_11 : decode cX8_letterHere 11 = .ok (.aload_n 0, 1) := by decide +kernel
theorem dX8_letterHere_12 : decode cX8_letterHere 12 = .ok (.getfield 94, 3) := by decide +kernel
theorem dX8_letterHere_15 : decode cX8_letterHere 15 = .ok (.if_icmp .ge 20, 3) := by decide +kernel
theorem dX8_letterHere_18 : decode cX8_letterHere 18 = .ok (.ldc 108, 2) := by decide +kernel
theorem dX8_letterHere_20 : decode cX8_letterHere 20 = .ok (.aload_n 0, 1) := by decide +kernel
theorem dX8_letterHere_21 : decode cX8_letterHere 21 = .ok (.getfield 9, 3) := by decide +kernel
theorem dX8_letterHere_24 : decode cX8_letterHere 24 = .ok (.aload_n 0, 1) := by decide +kernel
theorem dX8_letterHere_25 : decode cX8_letterHere 25 = .ok (.getfield 101, 3) := by decide +kernel
theorem dX8_letterHere_28 : decode cX8_letterHere 28 = .ok (.iaload, 1) := by decide +kernel
theorem dX8_letterHere_29 : decode cX8_letterHere 29 = .ok (.invokevirtual 110, 3) := by decide +kernel
theorem dX8_letterHere_32 : decode cX8_letterHere 32 = .ok (.goto 4, 3) := by decide +kernel
theorem dX8_letterHere_35 : decode cX8_letterHere 35 = .ok (.iconst (-1), 1) := by decide +kernel
theorem dX8_letterHere_36 : decode cX8_letterHere 36 = .ok (.ireturn, 1) := by decide +kernel
theorem dX8_passMen_0 : decode cX8_passMen 0 = .ok (.aload_n 0, 1) := by decide +kernel
theorem dX8_passMen_1 : decode cX8_passMen 1 = .ok (.dup, 1) := by decide +kernel
theorem dX8_passMen_2 : decode cX8_passMen 2 = .ok (.getfield 97, 3) := by decide +kernel
theorem dX8_passMen_5 : decode cX8_passMen 5 = .ok (.aload_n 0, 1) := by decide +kernel
theorem dX8_passMen_6 : decode cX8_passMen 6 = .ok (.invokevirtual 116, 3) := by decide +kernel
theorem dX8_passMen_9 : decode cX8_passMen 9 = .ok (.ifCond .ge 7, 3) := by decide +kernel
theorem dX8_passMen_12 : decode cX8_passMen 12 = .ok (.iconst 1, 1) := by decide +kernel
theorem dX8_passMen_13 : decode cX8_passMen 13 = .ok (.goto 4, 3) := by decide +kernel
theorem dX8_passMen_16 : decode cX8_passMen 16 = .ok (.iconst 0, 1) := by decide +kernel
theorem dX8_passMen_17 : decode cX8_passMen 17 = .ok (.ior, 1) := by decide +kernel
theorem dX8_passMen_18 : decode cX8_passMen 18 = .ok (.putfield 97, 3) := by decide +kernel
theorem dX8_passMen_21 : decode cX8_passMen 21 = .ok (.aload_n 0, 1) := by decide +kernel
theorem dX8_passMen_22 : decode cX8_passMen 22 = .ok (.getfield 97, 3) := by decide +kernel
theorem dX8_passMen_25 : decode cX8_passMen 25 = .ok (.ifCond .ne 77, 3) := by decide +kernel
theorem dX8_passMen_28 : decode cX8_passMen 28 = .ok (.aload_n 0, 1) := by decide +kernel
theorem dX8_passMen_29 : decode cX8_passMen 29 = .ok (.invokevirtual 116, 3) := by decide +kernel
theorem dX8_passMen_32 : decode cX8_passMen 32 = .ok (.ifCond .lt 70, 3) := by decide +kernel
theorem dX8_passMen_35 : decode cX8_passMen 35 = .ok (.aload_n 0, 1) := by decide +kernel
theorem dX8_passMen_36 : decode cX8_passMen 36 = .ok (.aload_n 0, 1) := by decide +kernel
theorem dX8_passMen_37 : decode cX8_passMen 37 = .ok (.getfield 16, 3) := by decide +kernel
theorem dX8_passMen_40 : decode cX8_passMen 40 = .ok (.iconst 2, 1) := by decide +kernel
theorem dX8_passMen_41 : decode cX8_passMen 41 = .ok (.iaload, 1) := by decide +kernel
theorem dX8_passMen_42 : decode cX8_passMen 42 = .ok (.iconst 3, 1) := by decide +kernel
theorem dX8_passMen_43 : decode cX8_passMen 43 = .ok (.if_icmp .ne 7, 3) := by decide +kernel
theorem dX8_passMen_46 : decode cX8_passMen 46 = .ok (.iconst 1, 1) := by decide +kernel
theorem dX8_passMen_47 : decode cX8_passMen 47 = .ok (.goto 4, 3) := by decide +kernel
theorem dX8_passMen_50 : decode cX8_passMen 50 = .ok (.iconst 0, 1) := by decide +kernel
theorem dX8_passMen_51 : decode cX8_passMen 51 = .ok (.putfield 97, 3) := by decide +kernel
theorem dX8_passMen_54 : decode cX8_passMen 54 = .ok (.aload_n 0, 1) := by decide +kernel
theorem dX8_passMen_55 : decode cX8_passMen 55 = .ok (.getfield 97, 3) := by decide +kernel
theorem dX8_passMen_58 : decode cX8_passMen 58 = .ok (.ifCond .ne (-37), 3) := by decide +kernel
theorem dX8_passMen_61 : decode cX8_passMen 61 = .ok (.aload_n 0, 1) := by decide +kernel
theorem dX8_passMen_62 : decode cX8_passMen 62 = .ok (.getfield 16, 3) := by decide +kernel
theorem dX8_passMen_65 : decode cX8_passMen 65 = .ok (.bipush 7, 2) := by decide +kernel
theorem dX8_passMen_67 : decode cX8_passMen 67 = .ok (.aload_n 0, 1) := by decide +kernel
theorem dX8_passMen_68 : decode cX8_passMen 68 = .ok (.getfield 16, 3) := by decide +kernel
theorem dX8_passMen_71 : decode cX8_passMen 71 = .ok (.iconst 2, 1) := by decide +kernel
theorem dX8_passMen_72 : decode cX8_passMen 72 = .ok (.iaload, 1) := by decide +kernel
theorem dX8_passMen_73 : decode cX8_passMen 73 = .ok (.iadd, 1) := by decide +kernel
theorem dX8_passMen_74 : decode cX8_passMen 74 = .ok (.aload_n 0, 1) := by decide +kernel
theorem dX8_passMen_75 : decode cX8_passMen 75 = .ok (.invokevirtual 116, 3) := by decide +kernel
theorem dX8_passMen_78 : decode cX8_passMen 78 = .ok (.iastore, 1) := by decide +kernel
theorem dX8_passMen_79 : decode cX8_passMen 79 = .ok (.aload_n 0, 1) := by decide +kernel
theorem dX8_passMen_80 : decode cX8_passMen 80 = .ok (.getfield 16, 3) := by decide +kernel
theorem dX8_passMen_83 : decode cX8_passMen 83 = .ok (.iconst 2, 1) := by decide +kernel
theorem dX8_passMen_84 : decode cX8_passMen 84 = .ok (.dup2, 1) := by decide +kernel
theorem dX8_passMen_85 : decode cX8_passMen 85 = .ok (.iaload, 1) := by decide +kernel
theorem dX8_passMen_86 : decode cX8_passMen 86 = .ok (.iconst 1, 1) := by decide +kernel
theorem dX8_passMen_87 : decode cX8_passMen 87 = .ok (.iadd, 1) := by decide +kernel
theorem dX8_passMen_88 : decode cX8_passMen 88 = .ok (.iastore, 1) := by decide +kernel
theorem dX8_passMen_89 : decode cX8_passMen 89 = .ok (.aload_n 0, 1) := by decide +kernel
theorem dX8_passMen_90 : decode cX8_passMen 90 = .ok (.dup, 1) := by decide +kernel
theorem dX8_passMen_91 : decode cX8_passMen 91 = .ok (.getfield 101, 3) := by decide +kernel
theorem dX8_passMen_94 : decode cX8_passMen 94 = .ok (.iconst 1, 1) := by decide +kernel
theorem dX8_passMen_95 : decode cX8_passMen 95 = .ok (.iadd, 1) := by decide +kernel
theorem dX8_passMen_96 : decode cX8_passMen 96 = .ok (.putfield 101, 3) := by decide +kernel
theorem dX8_passMen_99 : decode cX8_passMen 99 = .ok (.goto (-78), 3) := by decide +kernel
theorem dX8_passMen_102 : decode cX8_passMen 102 = .ok (.return_, 1) := by decide +kernel
theorem dX8_passNumber_0 : decode cX8_passNumber 0 = .ok (.aload_n 0, 1) := by decide +kernel
theorem dX8_passNumber_1 : decode cX8_passNumber 1 = .ok (.bipush 48, 2) := by decide +kernel
theorem dX8_passNumber_3 : decode cX8_passNumber 3 = .ok (.bipush 57, 2) := by decide +kernel
theorem dX8_passNumber_5 : decode cX8_passNumber 5 = .ok (.invokevirtual 120, 3) := by decide +kernel
theorem dX8_passNumber_8 : decode cX8_passNumber 8 = .ok (.istore_n 1, 1) := by decide +kernel
theorem dX8_passNumber_9 : decode cX8_passNumber 9 = .ok (.iload_n 1, 1) := by decide +kernel
theorem dX8_passNumber_10 : decode cX8_passNumber 10 = .ok (.ifCond .le 28, 3) := by decide +kernel
theorem dX8_passNumber_13 : decode cX8_passNumber 13 = .ok (.aload_n 0, 1) := by decide +kernel
theorem dX8_passNumber_14 : decode cX8_passNumber 14 = .ok (.bipush 48, 2) := by decide +kernel
theorem dX8_passNumber_16 : decode cX8_passNumber 16 = .ok (.bipush 57, 2) := by decide +kernel
theorem dX8_passNumber_18 : decode cX8_passNumber 18 = .ok (.invokevirtual 104, 3) := by decide +kernel
theorem dX8_passNumber_21 : decode cX8_passNumber 21 = .ok (.ifCond .eq 17, 3) := by decide +kernel
theorem dX8_passNumber_24 : decode cX8_passNumber 24 = .ok (.bipush 10, 2) := by decide +kernel
theorem dX8_passNumber_26 : decode cX8_passNumber 26 = .ok (.iload_n 1, 1) := by decide +kernel
theorem dX8_passNumber_27 : decode cX8_passNumber 27 = .ok (.imul, 1) := by decide +kernel
theorem dX8_passNumber_28 : decode cX8_passNumber 28 = .ok (.aload_n 0, 1) := by decide +kernel
theorem dX8_passNumber_29 : decode cX8_passNumber 29 = .ok (.bipush 48, 2) := by decide +kernel
theorem dX8_passNumber_31 : decode cX8_passNumber 31 = .ok (.bipush 57, 2) := by decide +kernel
theorem dX8_passNumber_33 : decode cX8_passNumber 33 = .ok (.invokevirtual 120, 3) := by decide +kernel
theorem dX8_passNumber_36 : decode cX8_passNumber 36 = .ok (.iadd, 1) := by decide +kernel
theorem dX8_passNumber_37 : decode cX8_passNumber 37 = .ok (.istore_n 1, 1) := by decide +kernel
theorem dX8_passNumber_38 : decode cX8_passNumber 38 = .ok (.iload_n 1, 1) := by decide +kernel
theorem dX8_passNumber_39 : decode cX8_passNumber 39 = .ok (.ireturn, 1) := by decide +kernel
theorem dX8_passSquare_0 : decode cX8_passSquare 0 = .ok (.aload_n 0, 1) := by decide +kernel
theorem dX8_passSquare_1 : decode cX8_passSquare 1 = .ok (.getfield 101, 3) := by decide +kernel
theorem dX8_passSquare_4 : decode cX8_passSquare 4 = .ok (.istore_n 1, 1) := by decide +kernel
theorem dX8_passSquare_5 : decode cX8_passSquare 5 = .ok (.aload_n 0, 1) := by decide +kernel
theorem dX8_passSquare_6 : decode cX8_passSquare 6 = .ok (.invokevirtual 124, 3) := by decide +kernel
theorem dX8_passSquare_9 : decode cX8_passSquare 9 = .ok (.istore_n 2, 1) := by decide +kernel
theorem dX8_passSquare_10 : decode cX8_passSquare 10 = .ok (.aload_n 0, 1) := by decide +kernel
theorem dX8_passSquare_11 : decode cX8_passSquare 11 = .ok (.getfield 97, 3) := by decide +kernel
theorem dX8_passSquare_14 : decode cX8_passSquare 14 = .ok (.ifCond .ne 30, 3) := by decide +kernel
theorem dX8_passSquare_17 : decode cX8_passSquare 17 = .ok (.iload_n 2, 1) := by decide +kernel
theorem dX8_passSquare_18 : decode cX8_passSquare 18 = .ok (.aload_n 0, 1) := by decide +kernel
theorem dX8_passSquare_19 : decode cX8_passSquare 19 = .ok (.getfield 16, 3) := by decide +kernel
theorem dX8_passSquare_22 : decode cX8_passSquare 22 = .ok (.iconst 0, 1) := by decide +kernel
theorem dX8_passSquare_23 : decode cX8_passSquare 23 = .ok (.iaload, 1) := by decide +kernel
theorem dX8_passSquare_24 : decode cX8_passSquare 24 = .ok (.aload_n 0, 1) := by decide +kernel
theorem dX8_passSquare_25 : decode cX8_passSquare 25 = .ok (.getfield 16, 3) := by decide +kernel
theorem dX8_passSquare_28 : decode cX8_passSquare 28 = .ok (.iconst 1, 1) := by decide +kernel
theorem dX8_passSquare_29 : decode cX8_passSquare 29 = .ok (.iaload, 1) := by decide +kernel
theorem dX8_passSquare_30 : decode cX8_passSquare 30 = .ok (.imul, 1) := by decide +kernel
theorem dX8_passSquare_31 : decode cX8_passSquare 31 = .ok (.if_icmp .lt 13, 3) := by decide +kernel
theorem dX8_passSquare_34 : decode cX8_passSquare 34 = .ok (.aload_n 0, 1) := by decide +kernel
theorem dX8_passSquare_35 : decode cX8_passSquare 35 = .ok (.iconst 1, 1) := by decide +kernel
theorem dX8_passSquare_36 : decode cX8_passSquare 36 = .ok (.putfield 97, 3) := by decide +kernel
theorem dX8_passSquare_39 : decode cX8_passSquare 39 = .ok (.aload_n 0, 1) := by decide +kernel
theorem dX8_passSquare_40 : decode cX8_passSquare 40 = .ok (.iload_n 1, 1) := by decide +kernel
theorem dX8_passSquare_41 : decode cX8_passSquare 41 = .ok (.putfield 101, 3) := by decide +kernel
theorem dX8_passSquare_44 : decode cX8_passSquare 44 = .ok (.aload_n 0, 1) := by decide +kernel
theorem dX8_passSquare_45 : decode cX8_passSquare 45 = .ok (.getfield 16, 3) := by decide +kernel
theorem dX8_passSquare_48 : decode cX8_passSquare 48 = .ok (.iconst 4, 1) := by decide +kernel
theorem dX8_passSquare_49 : decode cX8_passSquare 49 = .ok (.dup2, 1) := by decide +kernel
theorem dX8_passSquare_50 : decode cX8_passSquare 50 = .ok (.iaload, 1) := by decide +kernel
theorem dX8_passSquare_51 : decode cX8_passSquare 51 = .ok (.aload_n 0, 1) := by decide +kernel
theorem dX8_passSquare_52 : decode cX8_passSquare 52 = .ok (.getfield 97, 3) := by decide +kernel
theorem dX8_passSquare_55 : decode cX8_passSquare 55 = .ok (.ifCond .eq 7, 3) := by decide +kernel
theorem dX8_passSquare_58 : decode cX8_passSquare 58 = .ok (.iconst 0, 1) := by decide +kernel
theorem dX8_passSquare_59 : decode cX8_passSquare 59 = .ok (.goto 6, 3) := by decide +kernel
theorem dX8_passSquare_62 : decode cX8_passSquare 62 = .ok (.iconst 1, 1) := by decide +kernel
theorem dX8_passSquare_63 : decode cX8_passSquare 63 = .ok (.iload_n 2, 1) := by decide +kernel
theorem dX8_passSquare_64 : decode cX8_passSquare 64 = .ok (.ishl, 1) := by decide +kernel
theorem dX8_passSquare_65 : decode cX8_passSquare 65 = .ok (.ior, 1) := by decide +kernel
theorem dX8_passSquare_66 : decode cX8_passSquare 66 = .ok (.iastore, 1) := by decide +kernel
theorem dX8_passSquare_67 : decode cX8_passSquare 67 = .ok (.return_, 1) := by decide +kernel
theorem dX8_passClause_0 : decode cX8_passClause 0 = .ok (.aload_n 0, 1) := by decide +kernel
theorem dX8_passClause_1 : decode cX8_passClause 1 = .ok (.bipush 120, 2) := by decide +kernel
theorem dX8_passClause_3 : decode cX8_passClause 3 = .ok (.invokevirtual 127, 3) := by decide +kernel
theorem dX8_passClause_6 : decode cX8_passClause 6 = .ok (.ifCond .eq 23, 3) := by decide +kernel
theorem dX8_passClause_9 : decode cX8_passClause 9 = .ok (.aload_n 0, 1) := by decide +kernel
theorem dX8_passClause_10 : decode cX8_passClause 10 = .ok (.invokevirtual 130, 3) := by decide +kernel
theorem dX8_passClause_13 : decode cX8_passClause 13 = .ok (.aload_n 0, 1) := by decide +kernel
theorem dX8_passClause_14 : decode cX8_passClause 14 = .ok (.bipush 44, 2) := by decide +kernel
theorem dX8_passClause_16 : decode cX8_passClause 16 = .ok (.invokevirtual 127, 3) := by decide +kernel
theorem dX8_passClause_19 : decode cX8_passClause 19 = .ok (.ifCond .eq 95, 3) := by decide +kernel
theorem dX8_passClause_22 : decode cX8_passClause 22 = .ok (.aload_n 0, 1) := by decide +kernel
theorem dX8_passClause_23 : decode cX8_passClause 23 = .ok (.invokevirtual 130, 3) := by decide +kernel
theorem dX8_passClause_26 : decode cX8_passClause 26 = .ok (.goto (-13), 3) := by decide +kernel
theorem dX8_passClause_29 : decode cX8_passClause 29 = .ok (.aload_n 0, 1) := by decide +kernel
theorem dX8_passClause_30 : decode cX8_passClause 30 = .ok (.bipush 109, 2) := by decide +kernel
theorem dX8_passClause_32 : decode cX8_passClause 32 = .ok (.invokevirtual 127, 3) := by decide +kernel
theorem dX8_passClause_35 : decode cX8_passClause 35 = .ok (.ifCond .eq 17, 3) := by decide +kernel
theorem dX8_passClause_38 : decode cX8_passClause 38 = .ok (.aload_n 0, 1) := by decide +kernel
theorem dX8_passClause_39 : decode cX8_passClause 39 = .ok (.getfield 16, 3) := by decide +kernel
theorem dX8_passClause_42 : decode cX8_passClause 42 = .ok (.bipush 6, 2) := by decide +kernel
theorem dX8_passClause_44 : decode cX8_passClause 44 = .ok (.aload_n 0, 1) := by decide +kernel
theorem dX8_passClause_45 : decode cX8_passClause 45 = .ok (.invokevirtual 124, 3) := by decide +kernel
theorem dX8_passClause_48 : decode cX8_passClause 48 = .ok (.iastore, 1) := by decide +kernel
theorem dX8_passClause_49 : decode cX8_passClause 49 = .ok (.goto 65, 3) := by decide +kernel
theorem dX8_passClause_52 : decode cX8_passClause 52 = .ok (.aload_n 0, 1) := by decide +kernel
theorem dX8_passClause_53 : decode cX8_passClause 53 = .ok (.bipush 100, 2) := by decide +kernel
theorem dX8_passClause_55 : decode cX8_passClause 55 = .ok (.invokevirtual 127, 3) := by decide +kernel
theorem dX8_passClause_58 : decode cX8_passClause 58 = .ok (.ifCond .eq 13, 3) := by decide +kernel
theorem dX8_passClause_61 : decode cX8_passClause 61 = .ok (.aload_n 0, 1) := by decide +kernel
theorem dX8_passClause_62 : decode cX8_passClause 62 = .ok (.getfield 16, 3) := by decide +kernel
theorem dX8_passClause_65 : decode cX8_passClause 65 = .ok (.iconst 5, 1) := by decide +kernel
theorem dX8_passClause_66 : decode cX8_passClause 66 = .ok (.iconst 0, 1) := by decide +kernel
theorem dX8_passClause_67 : decode cX8_passClause 67 = .ok (.iastore, 1) := by decide +kernel
theorem dX8_passClause_68 : decode cX8_passClause 68 = .ok (.goto 46, 3) := by decide +kernel
theorem dX8_passClause_71 : decode cX8_passClause 71 = .ok (.aload_n 0, 1) := by decide +kernel
theorem dX8_passClause_72 : decode cX8_passClause 72 = .ok (.bipush 108, 2) := by decide +kernel
theorem dX8_passClause_74 : decode cX8_passClause 74 = .ok (.invokevirtual 127, 3) := by decide +kernel
theorem dX8_passClause_77 : decode cX8_passClause 77 = .ok (.ifCond .eq 13, 3) := by decide +kernel
theorem dX8_passClause_80 : decode cX8_passClause 80 = .ok (.aload_n 0, 1) := by decide +kernel
theorem dX8_passClause_81 : decode cX8_passClause 81 = .ok (.getfield 16, 3) := by decide +kernel
theorem dX8_passClause_84 : decode cX8_passClause 84 = .ok (.iconst 5, 1) := by decide +kernel
theorem dX8_passClause_85 : decode cX8_passClause 85 = .ok (.iconst (-1), 1) := by decide +kernel
theorem dX8_passClause_86 : decode cX8_passClause 86 = .ok (.iastore, 1) := by decide +kernel
theorem dX8_passClause_87 : decode cX8_passClause 87 = .ok (.goto 27, 3) := by decide +kernel
theorem dX8_passClause_90 : decode cX8_passClause 90 = .ok (.aload_n 0, 1) := by decide +kernel
theorem dX8_passClause_91 : decode cX8_passClause 91 = .ok (.bipush 119, 2) := by decide +kernel
theorem dX8_passClause_93 : decode cX8_passClause 93 = .ok (.invokevirtual 127, 3) := by decide +kernel
theorem dX8_passClause_96 : decode cX8_passClause 96 = .ok (.ifCond .eq 13, 3) := by decide +kernel
theorem dX8_passClause_99 : decode cX8_passClause 99 = .ok (.aload_n 0, 1) := by decide +kernel
theorem dX8_passClause_100 : decode cX8_passClause 100 = .ok (.getfield 16, 3) := by decide +kernel
theorem dX8_passClause_103 : decode cX8_passClause 103 = .ok (.iconst 5, 1) := by decide +kernel
theorem dX8_passClause_104 : decode cX8_passClause 104 = .ok (.iconst 1, 1) := by decide +kernel
theorem dX8_passClause_105 : decode cX8_passClause 105 = .ok (.iastore, 1) := by decide +kernel
theorem dX8_passClause_106 : decode cX8_passClause 106 = .ok (.goto 8, 3) := by decide +kernel
theorem dX8_passClause_109 : decode cX8_passClause 109 = .ok (.aload_n 0, 1) := by decide +kernel
theorem dX8_passClause_110 : decode cX8_passClause 110 = .ok (.iconst 1, 1) := by decide +kernel
theorem dX8_passClause_111 : decode cX8_passClause 111 = .ok (.putfield 97, 3) := by decide +kernel
theorem dX8_passClause_114 : decode cX8_passClause 114 = .ok (.return_, 1) := by decide +kernel
theorem dX8_passGame_0 : decode cX8_passGame 0 = .ok (.aload_n 0, 1) := by decide +kernel
theorem dX8_passGame_1 : decode cX8_passGame 1 = .ok (.iconst 0, 1) := by decide +kernel
theorem dX8_passGame_2 : decode cX8_passGame 2 = .ok (.putfield 101, 3) := by decide +kernel
theorem dX8_passGame_5 : decode cX8_passGame 5 = .ok (.aload_n 0, 1) := by decide +kernel
theorem dX8_passGame_6 : decode cX8_passGame 6 = .ok (.iconst 0, 1) := by decide +kernel
theorem dX8_passGame_7 : decode cX8_passGame 7 = .ok (.putfield 97, 3) := by decide +kernel
theorem dX8_passGame_10 : decode cX8_passGame 10 = .ok (.iconst 0, 1) := by decide +kernel
theorem dX8_passGame_11 : decode cX8_passGame 11 = .ok (.istore_n 1, 1) := by decide +kernel
theorem dX8_passGame_12 : decode cX8_passGame 12 = .ok (.iload_n 1, 1) := by decide +kernel
theorem dX8_passGame_13 : decode cX8_passGame 13 = .ok (.bipush 10, 2) := by decide +kernel
theorem dX8_passGame_15 : decode cX8_passGame 15 = .ok (.if_icmp .ge 16, 3) := by decide +kernel
theorem dX8_passGame_18 : decode cX8_passGame 18 = .ok (.aload_n 0, 1) := by decide +kernel
theorem dX8_passGame_19 : decode cX8_passGame 19 = .ok (.getfield 16, 3) := by decide +kernel
theorem dX8_passGame_22 : decode cX8_passGame 22 = .ok (.iload_n 1, 1) := by decide +kernel
theorem dX8_passGame_23 : decode cX8_passGame 23 = .ok (.iconst 0, 1) := by decide +kernel
theorem dX8_passGame_24 : decode cX8_passGame 24 = .ok (.iastore, 1) := by decide +kernel
theorem dX8_passGame_25 : decode cX8_passGame 25 = .ok (.iinc 1 1, 3) := by decide +kernel
theorem dX8_passGame_28 : decode cX8_passGame 28 = .ok (.goto (-16), 3) := by decide +kernel
theorem dX8_passGame_31 : decode cX8_passGame 31 = .ok (.aload_n 0, 1) := by decide +kernel
theorem dX8_passGame_32 : decode cX8_passGame 32 = .ok (.getfield 16, 3) := by decide +kernel
theorem dX8_passGame_35 : decode cX8_passGame 35 = .ok (.bipush 6, 2) := by decide +kernel
theorem dX8_passGame_37 : decode cX8_passGame 37 = .ok (.bipush (-5), 2) := by decide +kernel
theorem dX8_passGame_39 : decode cX8_passGame 39 = .ok (.iastore, 1) := by decide +kernel
theorem dX8_passGame_40 : decode cX8_passGame 40 = .ok (.aload_n 0, 1) := by decide +kernel
theorem dX8_passGame_41 : decode cX8_passGame 41 = .ok (.getfield 16, 3) := by decide +kernel
theorem dX8_passGame_44 : decode cX8_passGame 44 = .ok (.iconst 0, 1) := by decide +kernel
theorem dX8_passGame_45 : decode cX8_passGame 45 = .ok (.aload_n 0, 1) := by decide +kernel
theorem dX8_passGame_46 : decode cX8_passGame 46 = .ok (.bipush 50, 2) := by decide +kernel
theorem dX8_passGame_48 : decode cX8_passGame 48 = .ok (.bipush 54, 2) := by decide +kernel
theorem dX8_passGame_50 : decode cX8_passGame 50 = .ok (.invokevirtual 120, 3) := by decide +kernel
theorem dX8_passGame_53 : decode cX8_passGame 53 = .ok (.iastore, 1) := by decide +kernel
theorem dX8_passGame_54 : decode cX8_passGame 54 = .ok (.aload_n 0, 1) := by decide +kernel
theorem dX8_passGame_55 : decode cX8_passGame 55 = .ok (.getfield 16, 3) := by decide +kernel
theorem dX8_passGame_58 : decode cX8_passGame 58 = .ok (.iconst 1, 1) := by decide +kernel
theorem dX8_passGame_59 : decode cX8_passGame 59 = .ok (.aload_n 0, 1) := by decide +kernel
theorem dX8_passGame_60 : decode cX8_passGame 60 = .ok (.bipush 50, 2) := by decide +kernel
theorem dX8_passGame_62 : decode cX8_passGame 62 = .ok (.bipush 54, 2) := by decide +kernel
theorem dX8_passGame_64 : decode cX8_passGame 64 = .ok (.invokevirtual 120, 3) := by decide +kernel
theorem dX8_passGame_67 : decode cX8_passGame 67 = .ok (.iastore, 1) := by decide +kernel
theorem dX8_passGame_68 : decode cX8_passGame 68 = .ok (.aload_n 0, 1) := by decide +kernel
theorem dX8_passGame_69 : decode cX8_passGame 69 = .ok (.getfield 97, 3) := by decide +kernel
theorem dX8_passGame_72 : decode cX8_passGame 72 = .ok (.ifCond .ne 36, 3) := by decide +kernel
theorem dX8_passGame_75 : decode cX8_passGame 75 = .ok (.aload_n 0, 1) := by decide +kernel
theorem dX8_passGame_76 : decode cX8_passGame 76 = .ok (.getfield 16, 3) := by decide +kernel
theorem dX8_passGame_79 : decode cX8_passGame 79 = .ok (.iconst 0, 1) := by decide +kernel
theorem dX8_passGame_80 : decode cX8_passGame 80 = .ok (.iaload, 1) := by decide +kernel
theorem dX8_passGame_81 : decode cX8_passGame 81 = .ok (.aload_n 0, 1) := by decide +kernel
theorem dX8_passGame_82 : decode cX8_passGame 82 = .ok (.getfield 16, 3) := by decide +kernel
theorem dX8_passGame_85 : decode cX8_passGame 85 = .ok (.iconst 1, 1) := by decide +kernel
theorem dX8_passGame_86 : decode cX8_passGame 86 = .ok (.iaload, 1) := by decide +kernel
theorem dX8_passGame_87 : decode cX8_passGame 87 = .ok (.imul, 1) := by decide +kernel
theorem dX8_passGame_88 : decode cX8_passGame 88 = .ok (.bipush 12, 2) := by decide +kernel
theorem dX8_passGame_90 : decode cX8_passGame 90 = .ok (.if_icmp .le 18, 3) := by decide +kernel
theorem dX8_passGame_93 : decode cX8_passGame 93 = .ok (.aload_n 0, 1) := by decide +kernel
theorem dX8_passGame_94 : decode cX8_passGame 94 = .ok (.iconst 1, 1) := by decide +kernel
theorem dX8_passGame_95 : decode cX8_passGame 95 = .ok (.putfield 97, 3) := by decide +kernel
theorem dX8_passGame_98 : decode cX8_passGame 98 = .ok (.aload_n 0, 1) := by decide +kernel
theorem dX8_passGame_99 : decode cX8_passGame 99 = .ok (.dup, 1) := by decide +kernel
theorem dX8_passGame_100 : decode cX8_passGame 100 = .ok (.getfield 101, 3) := by decide +kernel
theorem dX8_passGame_103 : decode cX8_passGame 103 = .ok (.iconst 1, 1) := by decide +kernel
theorem dX8_passGame_104 : decode cX8_passGame 104 = .ok (.isub, 1) := by decide +kernel
theorem dX8_passGame_105 : decode cX8_passGame 105 = .ok (.putfield 101, 3) := by decide +kernel
theorem dX8_passGame_108 : decode cX8_passGame 108 = .ok (.aload_n 0, 1) := by decide +kernel
theorem dX8_passGame_109 : decode cX8_passGame 109 = .ok (.dup, 1) := by decide +kernel
theorem dX8_passGame_110 : decode cX8_passGame 110 = .ok (.getfield 97, 3) := by decide +kernel
theorem dX8_passGame_113 : decode cX8_passGame 113 = .ok (.aload_n 0, 1) := by decide +kernel
theorem dX8_passGame_114 : decode cX8_passGame 114 = .ok (.bipush 59, 2) := by decide +kernel
theorem dX8_passGame_116 : decode cX8_passGame 116 = .ok (.invokevirtual 127, 3) := by decide +kernel
theorem dX8_passGame_119 : decode cX8_passGame 119 = .ok (.ifCond .ne 7, 3) := by decide +kernel
theorem dX8_passGame_122 : decode cX8_passGame 122 = .ok (.iconst 1, 1) := by decide +kernel
theorem dX8_passGame_123 : decode cX8_passGame 123 = .ok (.goto 4, 3) := by decide +kernel
theorem dX8_passGame_126 : decode cX8_passGame 126 = .ok (.iconst 0, 1) := by decide +kernel
theorem dX8_passGame_127 : decode cX8_passGame 127 = .ok (.ior, 1) := by decide +kernel
theorem dX8_passGame_128 : decode cX8_passGame 128 = .ok (.putfield 97, 3) := by decide +kernel
theorem dX8_passGame_131 : decode cX8_passGame 131 = .ok (.aload_n 0, 1) := by decide +kernel
theorem dX8_passGame_132 : decode cX8_passGame 132 = .ok (.invokevirtual 133, 3) := by decide +kernel
theorem dX8_passGame_135 : decode cX8_passGame 135 = .ok (.aload_n 0, 1) := by decide +kernel
theorem dX8_passGame_136 : decode cX8_passGame 136 = .ok (.getfield 16, 3) := by decide +kernel
theorem dX8_passGame_139 : decode cX8_passGame 139 = .ok (.iconst 3, 1) := by decide +kernel
theorem dX8_passGame_140 : decode cX8_passGame 140 = .ok (.aload_n 0, 1) := by decide +kernel
theorem dX8_passGame_141 : decode cX8_passGame 141 = .ok (.getfield 16, 3) := by decide +kernel
theorem dX8_passGame_144 : decode cX8_passGame 144 = .ok (.iconst 2, 1) := by decide +kernel
theorem dX8_passGame_145 : decode cX8_passGame 145 = .ok (.iaload, 1) := by decide +kernel
theorem dX8_passGame_146 : decode cX8_passGame 146 = .ok (.iastore, 1) := by decide +kernel
theorem dX8_passGame_147 : decode cX8_passGame 147 = .ok (.aload_n 0, 1) := by decide +kernel
theorem dX8_passGame_148 : decode cX8_passGame 148 = .ok (.dup, 1) := by decide +kernel
theorem dX8_passGame_149 : decode cX8_passGame 149 = .ok (.getfield 97, 3) := by decide +kernel
theorem dX8_passGame_152 : decode cX8_passGame 152 = .ok (.aload_n 0, 1) := by decide +kernel
theorem dX8_passGame_153 : decode cX8_passGame 153 = .ok (.bipush 45, 2) := by decide +kernel
theorem dX8_passGame_155 : decode cX8_passGame 155 = .ok (.invokevirtual 127, 3) := by decide +kernel
theorem dX8_passGame_158 : decode cX8_passGame 158 = .ok (.ifCond .ne 7, 3) := by decide +kernel
theorem dX8_passGame_161 : decode cX8_passGame 161 = .ok (.iconst 1, 1) := by decide +kernel
theorem dX8_passGame_162 : decode cX8_passGame 162 = .ok (.goto 4, 3) := by decide +kernel
theorem dX8_passGame_165 : decode cX8_passGame 165 = .ok (.iconst 0, 1) := by decide +kernel
theorem dX8_passGame_166 : decode cX8_passGame 166 = .ok (.ior, 1) := by decide +kernel
theorem dX8_passGame_167 : decode cX8_passGame 167 = .ok (.putfield 97, 3) := by decide +kernel
theorem dX8_passGame_170 : decode cX8_passGame 170 = .ok (.aload_n 0, 1) := by decide +kernel
theorem dX8_passGame_171 : decode cX8_passGame 171 = .ok (.invokevirtual 133, 3) := by decide +kernel
theorem dX8_passGame_174 : decode cX8_passGame 174 = .ok (.aload_n 0, 1) := by decide +kernel
theorem dX8_passGame_175 : decode cX8_passGame 175 = .ok (.getfield 97, 3) := by decide +kernel
theorem dX8_passGame_178 : decode cX8_passGame 178 = .ok (.ifCond .ne 46, 3) := by decide +kernel
theorem dX8_passGame_181 : decode cX8_passGame 181 = .ok (.aload_n 0, 1) := by decide +kernel
theorem dX8_passGame_182 : decode cX8_passGame 182 = .ok (.getfield 101, 3) := by decide +kernel
theorem dX8_passGame_185 : decode cX8_passGame 185 = .ok (.aload_n 0, 1) := by decide +kernel
theorem dX8_passGame_186 : decode cX8_passGame 186 = .ok (.getfield 94, 3) := by decide +kernel
theorem dX8_passGame_189 : decode cX8_passGame 189 = .ok (.if_icmp .ge 35, 3) := by decide +kernel
theorem dX8_passGame_192 : decode cX8_passGame 192 = .ok (.aload_n 0, 1) := by decide +kernel
theorem dX8_passGame_193 : decode cX8_passGame 193 = .ok (.aload_n 0, 1) := by decide +kernel
theorem dX8_passGame_194 : decode cX8_passGame 194 = .ok (.bipush 59, 2) := by decide +kernel
theorem dX8_passGame_196 : decode cX8_passGame 196 = .ok (.invokevirtual 127, 3) := by decide +kernel
theorem dX8_passGame_199 : decode cX8_passGame 199 = .ok (.ifCond .ne 7, 3) := by decide +kernel
theorem dX8_passGame_202 : decode cX8_passGame 202 = .ok (.iconst 1, 1) := by decide +kernel
theorem dX8_passGame_203 : decode cX8_passGame 203 = .ok (.goto 4, 3) := by decide +kernel
theorem dX8_passGame_206 : decode cX8_passGame 206 = .ok (.iconst 0, 1) := by decide +kernel
theorem dX8_passGame_207 : decode cX8_passGame 207 = .ok (.putfield 97, 3) := by decide +kernel
theorem dX8_passGame_210 : decode cX8_passGame 210 = .ok (.aload_n 0, 1) := by decide +kernel
theorem dX8_passGame_211 : decode cX8_passGame 211 = .ok (.getfield 97, 3) := by decide +kernel
theorem dX8_passGame_214 : decode cX8_passGame 214 = .ok (.ifCond .ne (-40), 3) := by decide +kernel
theorem dX8_passGame_217 : decode cX8_passGame 217 = .ok (.aload_n 0, 1) := by decide +kernel
theorem dX8_passGame_218 : decode cX8_passGame 218 = .ok (.invokevirtual 136, 3) := by decide +kernel
theorem dX8_passGame_221 : decode cX8_passGame 221 = .ok (.goto (-47), 3) := by decide +kernel
theorem dX8_passGame_224 : decode cX8_passGame 224 = .ok (.return_, 1) := by decide +kernel
theorem dX8_countBits_0 : decode cX8_countBits 0 = .ok (.iconst 0, 1) := by decide +kernel
theorem dX8_countBits_1 : decode cX8_countBits 1 = .ok (.istore_n 1, 1) := by decide +kernel
theorem dX8_countBits_2 : decode cX8_countBits 2 = .ok (.iload_n 0, 1) := by decide +kernel
theorem dX8_countBits_3 : decode cX8_countBits 3 = .ok (.istore_n 2, 1) := by decide +kernel
theorem dX8_countBits_4 : decode cX8_countBits 4 = .ok (.iload_n 2, 1) := by decide +kernel
theorem dX8_countBits_5 : decode cX8_countBits 5 = .ok (.ifCond .eq 15, 3) := by decide +kernel
theorem dX8_countBits_8 : decode cX8_countBits 8 = .ok (.iinc 1 1, 3) := by decide +kernel
theorem dX8_countBits_11 : decode cX8_countBits 11 = .ok (.iload_n 2, 1) := by decide +kernel
theorem dX8_countBits_12 : decode cX8_countBits 12 = .ok (.iload_n 2, 1) := by decide +kernel
theorem dX8_countBits_13 : decode cX8_countBits 13 = .ok (.iconst 1, 1) := by decide +kernel
theorem dX8_countBits_14 : decode cX8_countBits 14 = .ok (.isub, 1) := by decide +kernel
theorem dX8_countBits_15 : decode cX8_countBits 15 = .ok (.iand, 1) := by decide +kernel
theorem dX8_countBits_16 : decode cX8_countBits 16 = .ok (.istore_n 2, 1) := by decide +kernel
theorem dX8_countBits_17 : decode cX8_countBits 17 = .ok (.goto (-13), 3) := by decide +kernel
theorem dX8_countBits_20 : decode cX8_countBits 20 = .ok (.iload_n 1, 1) := by decide +kernel
theorem dX8_countBits_21 : decode cX8_countBits 21 = .ok (.ireturn, 1) := by decide +kernel
theorem dX8_copy_0 : decode cX8_copy 0 = .ok (.iconst 0, 1) := by decide +kernel
theorem dX8_copy_1 : decode cX8_copy 1 = .ok (.istore_n 2, 1) := by decide +kernel
theorem dX8_copy_2 : decode cX8_copy 2 = .ok (.iload_n 2, 1) := by decide +kernel
theorem dX8_copy_3 : decode cX8_copy 3 = .ok (.aload_n 0, 1) := by decide +kernel
theorem dX8_copy_4 : decode cX8_copy 4 = .ok (.arraylength, 1) := by decide +kernel
theorem dX8_copy_5 : decode cX8_copy 5 = .ok (.if_icmp .ge 15, 3) := by decide +kernel
theorem dX8_copy_8 : decode cX8_copy 8 = .ok (.aload_n 1, 1) := by decide +kernel
theorem dX8_copy_9 : decode cX8_copy 9 = .ok (.iload_n 2, 1) := by decide +kernel
theorem dX8_copy_10 : decode cX8_copy 10 = .ok (.aload_n 0, 1) := by decide +kernel
theorem dX8_copy_11 : decode cX8_copy 11 = .ok (.iload_n 2, 1) := by decide +kernel
theorem dX8_copy_12 : decode cX8_copy 12 = .ok (.iaload, 1) := by decide +kernel
theorem dX8_copy_13 : decode cX8_copy 13 = .ok (.iastore, 1) := by decide +kernel
theorem dX8_copy_14 : decode cX8_copy 14 = .ok (.iinc 2 1, 3) := by decide +kernel
theorem dX8_copy_17 : decode cX8_copy 17 = .ok (.goto (-15), 3) := by decide +kernel
theorem dX8_copy_20 : decode cX8_copy 20 = .ok (.return_, 1) := by decide +kernel
theorem dX8_define_0 : decode cX8_define 0 = .ok (.aload_n 0, 1) := by decide +kernel
theorem dX8_define_1 : decode cX8_define 1 = .ok (.invokevirtual 139, 3) := by decide +kernel
theorem dX8_define_4 : decode cX8_define 4 = .ok (.aload_n 0, 1) := by decide +kernel
theorem dX8_define_5 : decode cX8_define 5 = .ok (.iconst 0, 1) := by decide +kernel
theorem dX8_define_6 : decode cX8_define 6 = .ok (.putfield 94, 3) := by decide +kernel
theorem dX8_define_9 : decode cX8_define 9 = .ok (.aload_n 0, 1) := by decide +kernel
theorem dX8_define_10 : decode cX8_define 10 = .ok (.getfield 97, 3) := by decide +kernel
theorem dX8_define_13 : decode cX8_define 13 = .ok (.ifCond .eq 11, 3) := by decide +kernel
theorem dX8_define_16 : decode cX8_define 16 = .ok (.bipush (-100), 2) := by decide +kernel
theorem dX8_define_18 : decode cX8_define 18 = .ok (.aload_n 0, 1) := by decide +kernel
theorem dX8_define_19 : decode cX8_define 19 = .ok (.getfield 101, 3) := by decide +kernel
theorem dX8_define_22 : decode cX8_define 22 = .ok (.isub, 1) := by decide +kernel
theorem dX8_define_23 : decode cX8_define 23 = .ok (.ireturn, 1) := by decide +kernel
theorem dX8_define_24 : decode cX8_define 24 = .ok (.aload_n 0, 1) := by decide +kernel
theorem dX8_define_25 : decode cX8_define 25 = .ok (.getfield 16, 3) := by decide +kernel
theorem dX8_define_28 : decode cX8_define 28 = .ok (.aload_n 0, 1) := by decide +kernel
theorem dX8_define_29 : decode cX8_define 29 = .ok (.getfield 13, 3) := by decide +kernel
theorem dX8_define_32 : decode cX8_define 32 = .ok (.invokestatic 142, 3) := by decide +kernel
theorem dX8_define_35 : decode cX8_define 35 = .ok (.aload_n 0, 1) := by decide +kernel
theorem dX8_define_36 : decode cX8_define 36 = .ok (.iconst 1, 1) := by decide +kernel
theorem dX8_define_37 : decode cX8_define 37 = .ok (.putfield 146, 3) := by decide +kernel
theorem dX8_define_40 : decode cX8_define 40 = .ok (.aload_n 0, 1) := by decide +kernel
theorem dX8_define_41 : decode cX8_define 41 = .ok (.iconst (-1), 1) := by decide +kernel
theorem dX8_define_42 : decode cX8_define 42 = .ok (.putfield 67, 3) := by decide +kernel
theorem dX8_define_45 : decode cX8_define 45 = .ok (.aload_n 0, 1) := by decide +kernel
theorem dX8_define_46 : decode cX8_define 46 = .ok (.invokevirtual 149, 3) := by decide +kernel
theorem dX8_define_49 : decode cX8_define 49 = .ok (.aload_n 0, 1) := by decide +kernel
theorem dX8_define_50 : decode cX8_define 50 = .ok (.invokevirtual 152, 3) := by decide +kernel
theorem dX8_define_53 : decode cX8_define 53 = .ok (.aload_n 0, 1) := by decide +kernel
theorem dX8_define_54 : decode cX8_define 54 = .ok (.getfield 13, 3) := by decide +kernel
theorem dX8_define_57 : decode cX8_define 57 = .ok (.iconst 4, 1) := by decide +kernel
theorem dX8_define_58 : decode cX8_define 58 = .ok (.iaload, 1) := by decide +kernel
theorem dX8_define_59 : decode cX8_define 59 = .ok (.invokestatic 155, 3) := by decide +kernel
theorem dX8_define_62 : decode cX8_define 62 = .ok (.isub, 1) := by decide +kernel
theorem dX8_define_63 : decode cX8_define 63 = .ok (.ireturn, 1) := by decide +kernel
theorem dX8_isWhite_0 : decode cX8_isWhite 0 = .ok (.iload_n 1, 1) := by decide +kernel
theorem dX8_isWhite_1 : decode cX8_isWhite 1 = .ok (.aload_n 0, 1) := by decide +kernel
theorem dX8_isWhite_2 : decode cX8_isWhite 2 = .ok (.getfield 13, 3) := by decide +kernel
theorem dX8_isWhite_5 : decode cX8_isWhite 5 = .ok (.iconst 3, 1) := by decide +kernel
theorem dX8_isWhite_6 : decode cX8_isWhite 6 = .ok (.iaload, 1) := by decide +kernel
theorem dX8_isWhite_7 : decode cX8_isWhite 7 = .ok (.if_icmp .ge 7, 3) := by decide +kernel
theorem dX8_isWhite_10 : decode cX8_isWhite 10 = .ok (.iconst 1, 1) := by decide +kernel
theorem dX8_isWhite_11 : decode cX8_isWhite 11 = .ok (.goto 4, 3) := by decide +kernel
theorem dX8_isWhite_14 : decode cX8_isWhite 14 = .ok (.iconst 0, 1) := by decide +kernel
theorem dX8_isWhite_15 : decode cX8_isWhite 15 = .ok (.ireturn, 1) := by decide +kernel
theorem dX8_isOf_0 : decode cX8_isOf 0 = .ok (.aload_n 0, 1) := by decide +kernel
theorem dX8_isOf_1 : decode cX8_isOf 1 = .ok (.iload_n 1, 1) := by decide +kernel
theorem dX8_isOf_2 : decode cX8_isOf 2 = .ok (.invokevirtual 158, 3) := by decide +kernel
theorem dX8_isOf_5 : decode cX8_isOf 5 = .ok (.iload_n 2, 1) := by decide +kernel
theorem dX8_isOf_6 : decode cX8_isOf 6 = .ok (.ifCond .ne 7, 3) := by decide +kernel
theorem dX8_isOf_9 : decode cX8_isOf 9 = .ok (.iconst 1, 1) := by decide +kernel
theorem dX8_isOf_10 : decode cX8_isOf 10 = .ok (.goto 4, 3) := by decide +kernel
theorem dX8_isOf_13 : decode cX8_isOf 13 = .ok (.iconst 0, 1) := by decide +kernel
theorem dX8_isOf_14 : decode cX8_isOf 14 = .ok (.if_icmp .ne 7, 3) := by decide +kernel
theorem dX8_isOf_17 : decode cX8_isOf 17 = .ok (.iconst 1, 1) := by decide +kernel
theorem dX8_isOf_18 : decode cX8_isOf 18 = .ok (.goto 4, 3) := by decide +kernel
theorem dX8_isOf_21 : decode cX8_isOf 21 = .ok (.iconst 0, 1) := by decide +kernel
theorem dX8_isOf_22 : decode cX8_isOf 22 = .ok (.ireturn, 1) := by decide +kernel
theorem dX8_royal_0 : decode cX8_royal 0 = .ok (.iload_n 1, 1) := by decide +kernel
theorem dX8_royal_1 : decode cX8_royal 1 = .ok (.ifCond .ne 7, 3) := by decide +kernel
theorem dX8_royal_4 : decode cX8_royal 4 = .ok (.iconst 0, 1) := by decide +kernel
theorem dX8_royal_5 : decode cX8_royal 5 = .ok (.goto 9, 3) := by decide +kernel
theorem dX8_royal_8 : decode cX8_royal 8 = .ok (.aload_n 0, 1) := by decide +kernel
theorem dX8_royal_9 : decode cX8_royal 9 = .ok (.getfield 13, 3) := by decide +kernel
theorem dX8_royal_12 : decode cX8_royal 12 = .ok (.iconst 3, 1) := by decide +kernel
theorem dX8_royal_13 : decode cX8_royal 13 = .ok (.iaload, 1) := by decide +kernel
theorem dX8_royal_14 : decode cX8_royal 14 = .ok (.ireturn, 1) := by decide +kernel
theorem dX8_indexOf_0 : decode cX8_indexOf 0 = .ok (.aload_n 0, 1) := by decide +kernel
theorem dX8_indexOf_1 : decode cX8_indexOf 1 = .ok (.invokevirtual 152, 3) := by decide +kernel
theorem dX8_indexOf_4 : decode cX8_indexOf 4 = .ok (.iconst 1, 1) := by decide +kernel
theorem dX8_indexOf_5 : decode cX8_indexOf 5 = .ok (.iadd, 1) := by decide +kernel
theorem dX8_indexOf_6 : decode cX8_indexOf 6 = .ok (.istore_n 3, 1) := by decide +kernel
theorem dX8_indexOf_7 : decode cX8_indexOf 7 = .ok (.aload_n 1, 1) := by decide +kernel
theorem dX8_indexOf_8 : decode cX8_indexOf 8 = .ok (.iconst 0, 1) := by decide +kernel
theorem dX8_indexOf_9 : decode cX8_indexOf 9 = .ok (.iaload, 1) := by decide +kernel
theorem dX8_indexOf_10 : decode cX8_indexOf 10 = .ok (.iload_n 3, 1) := by decide +kernel
theorem dX8_indexOf_11 : decode cX8_indexOf 11 = .ok (.imul, 1) := by decide +kernel
theorem dX8_indexOf_12 : decode cX8_indexOf 12 = .ok (.aload_n 1, 1) := by decide +kernel
theorem dX8_indexOf_13 : decode cX8_indexOf 13 = .ok (.iconst 1, 1) := by decide +kernel
theorem dX8_indexOf_14 : decode cX8_indexOf 14 = .ok (.iaload, 1) := by decide +kernel
theorem dX8_indexOf_15 : decode cX8_indexOf 15 = .ok (.iadd, 1) := by decide +kernel
theorem dX8_indexOf_16 : decode cX8_indexOf 16 = .ok (.iload_n 3, 1) := by decide +kernel
theorem dX8_indexOf_17 : decode cX8_indexOf 17 = .ok (.imul, 1) := by decide +kernel
theorem dX8_indexOf_18 : decode cX8_indexOf 18 = .ok (.aload_n 1, 1) := by decide +kernel
theorem dX8_indexOf_19 : decode cX8_indexOf 19 = .ok (.iconst 2, 1) := by decide +kernel
theorem dX8_indexOf_20 : decode cX8_indexOf 20 = .ok (.iaload, 1) := by decide +kernel
theorem dX8_indexOf_21 : decode cX8_indexOf 21 = .ok (.iadd, 1) := by decide +kernel
theorem dX8_indexOf_22 : decode cX8_indexOf 22 = .ok (.iconst 2, 1) := by decide +kernel
theorem dX8_indexOf_23 : decode cX8_indexOf 23 = .ok (.imul, 1) := by decide +kernel
theorem dX8_indexOf_24 : decode cX8_indexOf 24 = .ok (.iload_n 2, 1) := by decide +kernel
theorem dX8_indexOf_25 : decode cX8_indexOf 25 = .ok (.iadd, 1) := by decide +kernel
theorem dX8_indexOf_26 : decode cX8_indexOf 26 = .ok (.ireturn, 1) := by decide +kernel
theorem dX8_decode_0 : decode cX8_decode 0 = .ok (.aload_n 0, 1) := by decide +kernel
theorem dX8_decode_1 : decode cX8_decode 1 = .ok (.invokevirtual 152, 3) := by decide +kernel
theorem dX8_decode_4 : decode cX8_decode 4 = .ok (.iconst 1, 1) := by decide +kernel
theorem dX8_decode_5 : decode cX8_decode 5 = .ok (.iadd, 1) := by decide +kernel
theorem dX8_decode_6 : decode cX8_decode 6 = .ok (.istore_n 3, 1) := by decide +kernel
theorem dX8_decode_7 : decode cX8_decode 7 = .ok (.aload_n 2, 1) := by decide +kernel
theorem dX8_decode_8 : decode cX8_decode 8 = .ok (.iconst 2, 1) := by decide +kernel
theorem dX8_decode_9 : decode cX8_decode 9 = .ok (.iload_n 1, 1) := by decide +kernel
theorem dX8_decode_10 : decode cX8_decode 10 = .ok (.iconst 2, 1) := by decide +kernel
theorem dX8_decode_11 : decode cX8_decode 11 = .ok (.idiv, 1) := by decide +kernel
theorem dX8_decode_12 : decode cX8_decode 12 = .ok (.iload_n 3, 1) := by decide +kernel
theorem dX8_decode_13 : decode cX8_decode 13 = .ok (.irem, 1) := by decide +kernel
theorem dX8_decode_14 : decode cX8_decode 14 = .ok (.iastore, 1) := by decide +kernel
theorem dX8_decode_15 : decode cX8_decode 15 = .ok (.aload_n 2, 1) := by decide +kernel
theorem dX8_decode_16 : decode cX8_decode 16 = .ok (.iconst 1, 1) := by decide +kernel
theorem dX8_decode_17 : decode cX8_decode 17 = .ok (.iload_n 1, 1) := by decide +kernel
theorem dX8_decode_18 : decode cX8_decode 18 = .ok (.iconst 2, 1) := by decide +kernel
theorem dX8_decode_19 : decode cX8_decode 19 = .ok (.idiv, 1) := by decide +kernel
theorem dX8_decode_20 : decode cX8_decode 20 = .ok (.iload_n 3, 1) := by decide +kernel
theorem dX8_decode_21 : decode cX8_decode 21 = .ok (.idiv, 1) := by decide +kernel
theorem dX8_decode_22 : decode cX8_decode 22 = .ok (.iload_n 3, 1) := by decide +kernel
theorem dX8_decode_23 : decode cX8_decode 23 = .ok (.irem, 1) := by decide +kernel
theorem dX8_decode_24 : decode cX8_decode 24 = .ok (.iastore, 1) := by decide +kernel
theorem dX8_decode_25 : decode cX8_decode 25 = .ok (.aload_n 2, 1) := by decide +kernel
theorem dX8_decode_26 : decode cX8_decode 26 = .ok (.iconst 0, 1) := by decide +kernel
theorem dX8_decode_27 : decode cX8_decode 27 = .ok (.iload_n 1, 1) := by decide +kernel
theorem dX8_decode_28 : decode cX8_decode 28 = .ok (.iconst 2, 1) := by decide +kernel
theorem dX8_decode_29 : decode cX8_decode 29 = .ok (.idiv, 1) := by decide +kernel
theorem dX8_decode_30 : decode cX8_decode 30 = .ok (.iload_n 3, 1) := by decide +kernel
theorem dX8_decode_31 : decode cX8_decode 31 = .ok (.idiv, 1) := by decide +kernel
theorem dX8_decode_32 : decode cX8_decode 32 = .ok (.iload_n 3, 1) := by decide +kernel
theorem dX8_decode_33 : decode cX8_decode 33 = .ok (.idiv, 1) := by decide +kernel
theorem dX8_decode_34 : decode cX8_decode 34 = .ok (.iastore, 1) := by decide +kernel
theorem dX8_decode_35 : decode cX8_decode 35 = .ok (.return_, 1) := by decide +kernel
theorem dX8_occupied_0 : decode cX8_occupied 0 = .ok (.aload_n 0, 1) := by decide +kernel
theorem dX8_occupied_1 : decode cX8_occupied 1 = .ok (.getfield 13, 3) := by decide +kernel
theorem dX8_occupied_4 : decode cX8_occupied 4 = .ok (.iconst 4, 1) := by decide +kernel
theorem dX8_occupied_5 : decode cX8_occupied 5 = .ok (.iaload, 1) := by decide +kernel
theorem dX8_occupied_6 : decode cX8_occupied 6 = .ok (.istore_n 2, 1) := by decide +kernel
theorem dX8_occupied_7 : decode cX8_occupied 7 = .ok (.iconst 0, 1) := by decide +kernel
theorem dX8_occupied_8 : decode cX8_occupied 8 = .ok (.istore_n 3, 1) := by decide +kernel
theorem dX8_occupied_9 : decode cX8_occupied 9 = .ok (.iload_n 3, 1) := by decide +kernel
theorem dX8_occupied_10 : decode cX8_occupied 10 = .ok (.aload_n 0, 1) := by decide +kernel
theorem dX8_occupied_11 : decode cX8_occupied 11 = .ok (.getfield 13, 3) := by decide +kernel
theorem dX8_occupied_14 : decode cX8_occupied 14 = .ok (.iconst 2, 1) := by decide +kernel
theorem dX8_occupied_15 : decode cX8_occupied 15 = .ok (.iaload, 1) := by decide +kernel
theorem dX8_occupied_16 : decode cX8_occupied 16 = .ok (.if_icmp .ge 31, 3) := by decide +kernel
theorem dX8_occupied_19 : decode cX8_occupied 19 = .ok (.iload_n 2, 1) := by decide +kernel
theorem dX8_occupied_20 : decode cX8_occupied 20 = .ok (.aload_n 1, 1) := by decide +kernel
theorem dX8_occupied_21 : decode cX8_occupied 21 = .ok (.iload_n 3, 1) := by decide +kernel
theorem dX8_occupied_22 : decode cX8_occupied 22 = .ok (.iaload, 1) := by decide +kernel
theorem dX8_occupied_23 : decode cX8_occupied 23 = .ok (.aload_n 0, 1) := by decide +kernel
theorem dX8_occupied_24 : decode cX8_occupied 24 = .ok (.invokevirtual 152, 3) := by decide +kernel
theorem dX8_occupied_27 : decode cX8_occupied 27 = .ok (.if_icmp .ge 11, 3) := by decide +kernel
theorem dX8_occupied_30 : decode cX8_occupied 30 = .ok (.iconst 1, 1) := by decide +kernel
theorem dX8_occupied_31 : decode cX8_occupied 31 = .ok (.aload_n 1, 1) := by decide +kernel
theorem dX8_occupied_32 : decode cX8_occupied 32 = .ok (.iload_n 3, 1) := by decide +kernel
theorem dX8_occupied_33 : decode cX8_occupied 33 = .ok (.iaload, 1) := by decide +kernel
theorem dX8_occupied_34 : decode cX8_occupied 34 = .ok (.ishl, 1) := by decide +kernel
theorem dX8_occupied_35 : decode cX8_occupied 35 = .ok (.goto 4, 3) := by decide +kernel
theorem dX8_occupied_38 : decode cX8_occupied 38 = .ok (.iconst 0, 1) := by decide +kernel
theorem dX8_occupied_39 : decode cX8_occupied 39 = .ok (.ior, 1) := by decide +kernel
theorem dX8_occupied_40 : decode cX8_occupied 40 = .ok (.istore_n 2, 1) := by decide +kernel
theorem dX8_occupied_41 : decode cX8_occupied 41 = .ok (.iinc 3 1, 3) := by decide +kernel
theorem dX8_occupied_44 : decode cX8_occupied 44 = .ok (.goto (-35), 3) := by decide +kernel
theorem dX8_occupied_47 : decode cX8_occupied 47 = .ok (.iload_n 2, 1) := by decide +kernel
theorem dX8_occupied_48 : decode cX8_occupied 48 = .ok (.ireturn, 1) := by decide +kernel
theorem dX8_size_0 : decode cX8_size 0 = .ok (.iload_n 0, 1) := by decide +kernel
theorem dX8_size_1 : decode cX8_size 1 = .ok (.ifCond .ge 8, 3) := by decide +kernel
theorem dX8_size_4 : decode cX8_size 4 = .ok (.iload_n 0, 1) := by decide +kernel
theorem dX8_size_5 : decode cX8_size 5 = .ok (.ineg, 1) := by decide +kernel
theorem dX8_size_6 : decode cX8_size 6 = .ok (.goto 4, 3) := by decide +kernel
theorem dX8_size_9 : decode cX8_size 9 = .ok (.iload_n 0, 1) := by decide +kernel
theorem dX8_size_10 : decode cX8_size 10 = .ok (.ireturn, 1) := by decide +kernel
theorem dX8_sign_0 : decode cX8_sign 0 = .ok (.iload_n 0, 1) := by decide +kernel
theorem dX8_sign_1 : decode cX8_sign 1 = .ok (.ifCond .ge 7, 3) := by decide +kernel
theorem dX8_sign_4 : decode cX8_sign 4 = .ok (.iconst (-1), 1) := by decide +kernel
theorem dX8_sign_5 : decode cX8_sign 5 = .ok (.goto 12, 3) := by decide +kernel
theorem dX8_sign_8 : decode cX8_sign 8 = .ok (.iload_n 0, 1) := by decide +kernel
theorem dX8_sign_9 : decode cX8_sign 9 = .ok (.ifCond .le 7, 3) := by decide +kernel
theorem dX8_sign_12 : decode cX8_sign 12 = .ok (.iconst 1, 1) := by decide +kernel
theorem dX8_sign_13 : decode cX8_sign 13 = .ok (.goto 4, 3) := by decide +kernel
theorem dX8_sign_16 : decode cX8_sign 16 = .ok (.iconst 0, 1) := by decide +kernel
theorem dX8_sign_17 : decode cX8_sign 17 = .ok (.ireturn, 1) := by decide +kernel
theorem dX8_isClear_0 : decode cX8_isClear 0 = .ok (.aload_n 0, 1) := by decide +kernel
theorem dX8_isClear_1 : decode cX8_isClear 1 = .ok (.getfield 13, 3) := by decide +kernel
theorem dX8_isClear_4 : decode cX8_isClear 4 = .ok (.iconst 0, 1) := by decide +kernel
theorem dX8_isClear_5 : decode cX8_isClear 5 = .ok (.iaload, 1) := by decide +kernel
theorem dX8_isClear_6 : decode cX8_isClear 6 = .ok (.istore 4, 2) := by decide +kernel
theorem dX8_isClear_8 : decode cX8_isClear 8 = .ok (.iload_n 2, 1) := by decide +kernel
theorem dX8_isClear_9 : decode cX8_isClear 9 = .ok (.iload 4, 2) := by decide +kernel
theorem dX8_isClear_11 : decode cX8_isClear 11 = .ok (.irem, 1) := by decide +kernel
theorem dX8_isClear_12 : decode cX8_isClear 12 = .ok (.iload_n 1, 1) := by decide +kernel
theorem dX8_isClear_13 : decode cX8_isClear 13 = .ok (.iload 4, 2) := by decide +kernel
theorem dX8_isClear_15 : decode cX8_isClear 15 = .ok (.irem, 1) := by decide +kernel
theorem dX8_isClear_16 : decode cX8_isClear 16 = .ok (.isub, 1) := by decide +kernel
theorem dX8_isClear_17 : decode cX8_isClear 17 = .ok (.invokestatic 161, 3) := by decide +kernel
theorem dX8_isClear_20 : decode cX8_isClear 20 = .ok (.istore 5, 2) := by decide +kernel
theorem dX8_isClear_22 : decode cX8_isClear 22 = .ok (.iload_n 2, 1) := by decide +kernel
theorem dX8_isClear_23 : decode cX8_isClear 23 = .ok (.iload 4, 2) := by decide +kernel
theorem dX8_isClear_25 : decode cX8_isClear 25 = .ok (.idiv, 1) := by decide +kernel
theorem dX8_isClear_26 : decode cX8_isClear 26 = .ok (.iload_n 1, 1) := by decide +kernel
theorem dX8_isClear_27 : decode cX8_isClear 27 = .ok (.iload 4, 2) := by decide +kernel
theorem dX8_isClear_29 : decode cX8_isClear 29 = .ok (.idiv, 1) := by decide +kernel
theorem dX8_isClear_30 : decode cX8_isClear 30 = .ok (.isub, 1) := by decide +kernel
theorem dX8_isClear_31 : decode cX8_isClear 31 = .ok (.invokestatic 161, 3) := by decide +kernel
theorem dX8_isClear_34 : decode cX8_isClear 34 = .ok (.istore 6, 2) := by decide +kernel
theorem dX8_isClear_36 : decode cX8_isClear 36 = .ok (.iconst 1, 1) := by decide +kernel
theorem dX8_isClear_37 : decode cX8_isClear 37 = .ok (.istore 7, 2) := by decide +kernel
theorem dX8_isClear_39 : decode cX8_isClear 39 = .ok (.iload_n 1, 1) := by decide +kernel
theorem dX8_isClear_40 : decode cX8_isClear 40 = .ok (.iload 6, 2) := by decide +kernel
theorem dX8_isClear_42 : decode cX8_isClear 42 = .ok (.iload 4, 2) := by decide +kernel
theorem dX8_isClear_44 : decode cX8_isClear 44 = .ok (.imul, 1) := by decide +kernel
theorem dX8_isClear_45 : decode cX8_isClear 45 = .ok (.iadd, 1) := by decide +kernel
theorem dX8_isClear_46 : decode cX8_isClear 46 = .ok (.iload 5, 2) := by decide +kernel
theorem dX8_isClear_48 : decode cX8_isClear 48 = .ok (.iadd, 1) := by decide +kernel
theorem dX8_isClear_49 : decode cX8_isClear 49 = .ok (.istore 8, 2) := by decide +kernel
theorem dX8_isClear_51 : decode cX8_isClear 51 = .ok (.iload 8, 2) := by decide +kernel
theorem dX8_isClear_53 : decode cX8_isClear 53 = .ok (.iload_n 2, 1) := by decide +kernel
theorem dX8_isClear_54 : decode cX8_isClear 54 = .ok (.if_icmp .eq 38, 3) := by decide +kernel
theorem dX8_isClear_57 : decode cX8_isClear 57 = .ok (.iload 7, 2) := by decide +kernel
theorem dX8_isClear_59 : decode cX8_isClear 59 = .ok (.iload_n 3, 1) := by decide +kernel
theorem dX8_isClear_60 : decode cX8_isClear 60 = .ok (.iload 8, 2) := by decide +kernel
theorem dX8_isClear_62 : decode cX8_isClear 62 = .ok (.invokestatic 164, 3) := by decide +kernel
theorem dX8_isClear_65 : decode cX8_isClear 65 = .ok (.ifCond .ne 7, 3) := by decide +kernel
theorem dX8_isClear_68 : decode cX8_isClear 68 = .ok (.iconst 1, 1) := by decide +kernel
theorem dX8_isClear_69 : decode cX8_isClear 69 = .ok (.goto 4, 3) := by decide +kernel
theorem dX8_isClear_72 : decode cX8_isClear 72 = .ok (.iconst 0, 1) := by decide +kernel
theorem dX8_isClear_73 : decode cX8_isClear 73 = .ok (.iand, 1) := by decide +kernel
theorem dX8_isClear_74 : decode cX8_isClear 74 = .ok (.istore 7, 2) := by decide +kernel
theorem dX8_isClear_76 : decode cX8_isClear 76 = .ok (.iload 8, 2) := by decide +kernel
theorem dX8_isClear_78 : decode cX8_isClear 78 = .ok (.iload 6, 2) := by decide +kernel
theorem dX8_isClear_80 : decode cX8_isClear 80 = .ok (.iload 4, 2) := by decide +kernel
theorem dX8_isClear_82 : decode cX8_isClear 82 = .ok (.imul, 1) := by decide +kernel
theorem dX8_isClear_83 : decode cX8_isClear 83 = .ok (.iload 5, 2) := by decide +kernel
theorem dX8_isClear_85 : decode cX8_isClear 85 = .ok (.iadd, 1) := by decide +kernel
theorem dX8_isClear_86 : decode cX8_isClear 86 = .ok (.iadd, 1) := by decide +kernel
theorem dX8_isClear_87 : decode cX8_isClear 87 = .ok (.istore 8, 2) := by decide +kernel
theorem dX8_isClear_89 : decode cX8_isClear 89 = .ok (.goto (-38), 3) := by decide +kernel
theorem dX8_isClear_92 : decode cX8_isClear 92 = .ok (.iload 7, 2) := by decide +kernel
theorem dX8_isClear_94 : decode cX8_isClear 94 = .ok (.ireturn, 1) := by decide +kernel
theorem dX8_reaches_0 : decode cX8_reaches 0 = .ok (.aload_n 0, 1) := by decide +kernel
theorem dX8_reaches_1 : decode cX8_reaches 1 = .ok (.getfield 13, 3) := by decide +kernel
theorem dX8_reaches_4 : decode cX8_reaches 4 = .ok (.iconst 0, 1) := by decide +kernel
theorem dX8_reaches_5 : decode cX8_reaches 5 = .ok (.iaload, 1) := by decide +kernel
theorem dX8_reaches_6 : decode cX8_reaches 6 = .ok (.istore 6, 2) := by decide +kernel
theorem dX8_reaches_8 : decode cX8_reaches 8 = .ok (.iload_n 3, 1) := by decide +kernel
theorem dX8_reaches_9 : decode cX8_reaches 9 = .ok (.iload 6, 2) := by decide +kernel
theorem dX8_reaches_11 : decode cX8_reaches 11 = .ok (.irem, 1) := by decide +kernel
theorem dX8_reaches_12 : decode cX8_reaches 12 = .ok (.iload_n 2, 1) := by decide +kernel
theorem dX8_reaches_13 : decode cX8_reaches 13 = .ok (.iload 6, 2) := by decide +kernel
theorem dX8_reaches_15 : decode cX8_reaches 15 = .ok (.irem, 1) := by decide +kernel
theorem dX8_reaches_16 : decode cX8_reaches 16 = .ok (.isub, 1) := by decide +kernel
theorem dX8_reaches_17 : decode cX8_reaches 17 = .ok (.invokestatic 167, 3) := by decide +kernel
theorem dX8_reaches_20 : decode cX8_reaches 20 = .ok (.istore 7, 2) := by decide +kernel
theorem dX8_reaches_22 : decode cX8_reaches 22 = .ok (.iload_n 3, 1) := by decide +kernel
theorem dX8_reaches_23 : decode cX8_reaches 23 = .ok (.iload 6, 2) := by decide +kernel
theorem dX8_reaches_25 : decode cX8_reaches 25 = .ok (.idiv, 1) := by decide +kernel
theorem dX8_reaches_26 : decode cX8_reaches 26 = .ok (.iload_n 2, 1) := by decide +kernel
theorem dX8_reaches_27 : decode cX8_reaches 27 = .ok (.iload 6, 2) := by decide +kernel
theorem dX8_reaches_29 : decode cX8_reaches 29 = .ok (.idiv, 1) := by decide +kernel
theorem dX8_reaches_30 : decode cX8_reaches 30 = .ok (.isub, 1) := by decide +kernel
theorem dX8_reaches_31 : decode cX8_reaches 31 = .ok (.istore 8, 2) := by decide +kernel
theorem dX8_reaches_33 : decode cX8_reaches 33 = .ok (.iload 8, 2) := by decide +kernel
theorem dX8_reaches_35 : decode cX8_reaches 35 = .ok (.invokestatic 167, 3) := by decide +kernel
theorem dX8_reaches_38 : decode cX8_reaches 38 = .ok (.istore 9, 2) := by decide +kernel
theorem dX8_reaches_40 : decode cX8_reaches 40 = .ok (.iload 7, 2) := by decide +kernel
theorem dX8_reaches_42 : decode cX8_reaches 42 = .ok (.ifCond .ne 7, 3) := by decide +kernel
theorem dX8_reaches_45 : decode cX8_reaches 45 = .ok (.iconst 1, 1) := by decide +kernel
theorem dX8_reaches_46 : decode cX8_reaches 46 = .ok (.goto 4, 3) := by decide +kernel
theorem dX8_reaches_49 : decode cX8_reaches 49 = .ok (.iconst 0, 1) := by decide +kernel
theorem dX8_reaches_50 : decode cX8_reaches 50 = .ok (.iload 9, 2) := by decide +kernel
theorem dX8_reaches_52 : decode cX8_reaches 52 = .ok (.ifCond .ne 7, 3) := by decide +kernel
theorem dX8_reaches_55 : decode cX8_reaches 55 = .ok (.iconst 1, 1) := by decide +kernel
theorem dX8_reaches_56 : decode cX8_reaches 56 = .ok (.goto 4, 3) := by decide +kernel
theorem dX8_reaches_59 : decode cX8_reaches 59 = .ok (.iconst 0, 1) := by decide +kernel
theorem dX8_reaches_60 : decode cX8_reaches 60 = .ok (.if_icmp .eq 7, 3) := by decide +kernel
theorem dX8_reaches_63 : decode cX8_reaches 63 = .ok (.iconst 1, 1) := by decide +kernel
theorem dX8_reaches_64 : decode cX8_reaches 64 = .ok (.goto 4, 3) := by decide +kernel
theorem dX8_reaches_67 : decode cX8_reaches 67 = .ok (.iconst 0, 1) := by decide +kernel
theorem dX8_reaches_68 : decode cX8_reaches 68 = .ok (.istore 10, 2) := by decide +kernel
theorem dX8_reaches_70 : decode cX8_reaches 70 = .ok (.iload 7, 2) := by decide +kernel
theorem dX8_reaches_72 : decode cX8_reaches 72 = .ok (.iload 9, 2) := by decide +kernel
theorem dX8_reaches_74 : decode cX8_reaches 74 = .ok (.if_icmp .ne 12, 3) := by decide +kernel
theorem dX8_reaches_77 : decode cX8_reaches 77 = .ok (.iload 7, 2) := by decide +kernel
theorem dX8_reaches_79 : decode cX8_reaches 79 = .ok (.ifCond .le 7, 3) := by decide +kernel
theorem dX8_reaches_82 : decode cX8_reaches 82 = .ok (.iconst 1, 1) := by decide +kernel
theorem dX8_reaches_83 : decode cX8_reaches 83 = .ok (.goto 4, 3) := by decide +kernel
theorem dX8_reaches_86 : decode cX8_reaches 86 = .ok (.iconst 0, 1) := by decide +kernel
theorem dX8_reaches_87 : decode cX8_reaches 87 = .ok (.istore 11, 2) := by decide +kernel
theorem dX8_reaches_89 : decode cX8_reaches 89 = .ok (.aload_n 0, 1) := by decide +kernel
theorem dX8_reaches_90 : decode cX8_reaches 90 = .ok (.getfield 13, 3) := by decide +kernel
theorem dX8_reaches_93 : decode cX8_reaches 93 = .ok (.bipush 7, 2) := by decide +kernel
theorem dX8_reaches_95 : decode cX8_reaches 95 = .ok (.iload_n 1, 1) := by decide +kernel
theorem dX8_reaches_96 : decode cX8_reaches 96 = .ok (.iadd, 1) := by decide +kernel
theorem dX8_reaches_97 : decode cX8_reaches 97 = .ok (.iaload, 1) := by decide +kernel
theorem dX8_reaches_98 : decode cX8_reaches 98 = .ok (.tableswitch 256 0 8 #[50, 65, 83, 109, 139, 157, 179, 201, 228], 50) := by decide +kernel
theorem dX8_reaches_148 : decode cX8_reaches 148 = .ok (.iload 7, 2) := by decide +kernel
theorem dX8_reaches_150 : decode cX8_reaches 150 = .ok (.iload 9, 2) := by decide +kernel
theorem dX8_reaches_152 : decode cX8_reaches 152 = .ok (.iadd, 1) := by decide +kernel
theorem dX8_reaches_153 : decode cX8_reaches 153 = .ok (.iconst 1, 1) := by decide +kernel
theorem dX8_reaches_154 : decode cX8_reaches 154 = .ok (.if_icmp .ne 7, 3) := by decide +kernel
theorem dX8_reaches_157 : decode cX8_reaches 157 = .ok (.iconst 1, 1) := by decide +kernel
theorem dX8_reaches_158 : decode cX8_reaches 158 = .ok (.goto 4, 3) := by decide +kernel
theorem dX8_reaches_161 : decode cX8_reaches 161 = .ok (.iconst 0, 1) := by decide +kernel
theorem dX8_reaches_162 : decode cX8_reaches 162 = .ok (.ireturn, 1) := by decide +kernel
theorem dX8_reaches_163 : decode cX8_reaches 163 = .ok (.iload 7, 2) := by decide +kernel
theorem dX8_reaches_165 : decode cX8_reaches 165 = .ok (.iconst 1, 1) := by decide +kernel
theorem dX8_reaches_166 : decode cX8_reaches 166 = .ok (.if_icmp .ne 13, 3) := by decide +kernel
theorem dX8_reaches_169 : decode cX8_reaches 169 = .ok (.iload 9, 2) := by decide +kernel
theorem dX8_reaches_171 : decode cX8_reaches 171 = .ok (.iconst 1, 1) := by decide +kernel
theorem dX8_reaches_172 : decode cX8_reaches 172 = .ok (.if_icmp .ne 7, 3) := by decide +kernel
theorem dX8_reaches_175 : decode cX8_reaches 175 = .ok (.iconst 1, 1) := by decide +kernel
theorem dX8_reaches_176 : decode cX8_reaches 176 = .ok (.goto 4, 3) := by decide +kernel
theorem dX8_reaches_179 : decode cX8_reaches 179 = .ok (.iconst 0, 1) := by decide +kernel
theorem dX8_reaches_180 : decode cX8_reaches 180 = .ok (.ireturn, 1) := by decide +kernel
theorem dX8_reaches_181 : decode cX8_reaches 181 = .ok (.iload 7, 2) := by decide +kernel
theorem dX8_reaches_183 : decode cX8_reaches 183 = .ok (.iconst 1, 1) := by decide +kernel
theorem dX8_reaches_184 : decode cX8_reaches 184 = .ok (.if_icmp .gt 21, 3) := by decide +kernel
theorem dX8_reaches_187 : decode cX8_reaches 187 = .ok (.iload 9, 2) := by decide +kernel
theorem dX8_reaches_189 : decode cX8_reaches 189 = .ok (.iconst 1, 1) := by decide +kernel
theorem dX8_reaches_190 : decode cX8_reaches 190 = .ok (.if_icmp .gt 15, 3) := by decide +kernel
theorem dX8_reaches_193 : decode cX8_reaches 193 = .ok (.iload 7, 2) := by decide +kernel
theorem dX8_reaches_195 : decode cX8_reaches 195 = .ok (.iload 9, 2) := by decide +kernel
theorem dX8_reaches_197 : decode cX8_reaches 197 = .ok (.iadd, 1) := by decide +kernel
theorem dX8_reaches_198 : decode cX8_reaches 198 = .ok (.ifCond .le 7, 3) := by decide +kernel
theorem dX8_reaches_201 : decode cX8_reaches 201 = .ok (.iconst 1, 1) := by decide +kernel
theorem dX8_reaches_202 : decode cX8_reaches 202 = .ok (.goto 4, 3) := by decide +kernel
theorem dX8_reaches_205 : decode cX8_reaches 205 = .ok (.iconst 0, 1) := by decide +kernel
theorem dX8_reaches_206 : decode cX8_reaches 206 = .ok (.ireturn, 1) := by decide +kernel
theorem dX8_reaches_207 : decode cX8_reaches 207 = .ok (.iload 7, 2) := by decide +kernel
theorem dX8_reaches_209 : decode cX8_reaches 209 = .ok (.iconst 1, 1) := by decide +kernel
theorem dX8_reaches_210 : decode cX8_reaches 210 = .ok (.if_icmp .ne 9, 3) := by decide +kernel
theorem dX8_reaches_213 : decode cX8_reaches 213 = .ok (.iload 9, 2) := by decide +kernel
theorem dX8_reaches_215 : decode cX8_reaches 215 = .ok (.iconst 2, 1) := by decide +kernel
theorem dX8_reaches_216 : decode cX8_reaches 216 = .ok (.if_icmp .eq 15, 3) := by decide +kernel
theorem dX8_reaches_219 : decode cX8_reaches 219 = .ok (.iload 7, 2) := by decide +kernel
theorem dX8_reaches_221 : decode cX8_reaches 221 = .ok (.iconst 2, 1) := by decide +kernel
theorem dX8_reaches_222 : decode cX8_reaches 222 = .ok (.if_icmp .ne 13, 3) := by decide +kernel
theorem dX8_reaches_225 : decode cX8_reaches 225 = .ok (.iload 9, 2) := by decide +kernel
theorem dX8_reaches_227 : decode cX8_reaches 227 = .ok (.iconst 1, 1) := by decide +kernel
theorem dX8_reaches_228 : decode cX8_reaches 228 = .ok (.if_icmp .ne 7, 3) := by decide +kernel
theorem dX8_reaches_231 : decode cX8_reaches 231 = .ok (.iconst 1, 1) := by decide +kernel
theorem dX8_reaches_232 : decode cX8_reaches 232 = .ok (.goto 4, 3) := by decide +kernel
theorem dX8_reaches_235 : decode cX8_reaches 235 = .ok (.iconst 0, 1) := by decide +kernel
theorem dX8_reaches_236 : decode cX8_reaches 236 = .ok (.ireturn, 1) := by decide +kernel
theorem dX8_reaches_237 : decode cX8_reaches 237 = .ok (.iload 7, 2) := by decide +kernel
theorem dX8_reaches_239 : decode cX8_reaches 239 = .ok (.iconst 2, 1) := by decide +kernel
theorem dX8_reaches_240 : decode cX8_reaches 240 = .ok (.if_icmp .ne 13, 3) := by decide +kernel
theorem dX8_reaches_243 : decode cX8_reaches 243 = .ok (.iload 9, 2) := by decide +kernel
theorem dX8_reaches_245 : decode cX8_reaches 245 = .ok (.iconst 2, 1) := by decide +kernel
theorem dX8_reaches_246 : decode cX8_reaches 246 = .ok (.if_icmp .ne 7, 3) := by decide +kernel
theorem dX8_reaches_249 : decode cX8_reaches 249 = .ok (.iconst 1, 1) := by decide +kernel
theorem dX8_reaches_250 : decode cX8_reaches 250 = .ok (.goto 4, 3) := by decide +kernel
theorem dX8_reaches_253 : decode cX8_reaches 253 = .ok (.iconst 0, 1) := by decide +kernel
theorem dX8_reaches_254 : decode cX8_reaches 254 = .ok (.ireturn, 1) := by decide +kernel
theorem dX8_reaches_255 : decode cX8_reaches 255 = .ok (.iload 10, 2) := by decide +kernel
theorem dX8_reaches_257 : decode cX8_reaches 257 = .ok (.ifCond .eq 18, 3) := by decide +kernel
theorem dX8_reaches_260 : decode cX8_reaches 260 = .ok (.aload_n 0, 1) := by decide +kernel
theorem dX8_reaches_261 : decode cX8_reaches 261 = .ok (.iload_n 2, 1) := by decide +kernel
theorem dX8_reaches_262 : decode cX8_reaches 262 = .ok (.iload_n 3, 1) := by decide +kernel
theorem dX8_reaches_263 : decode cX8_reaches 263 = .ok (.iload 4, 2) := by decide +kernel
theorem dX8_reaches_265 : decode cX8_reaches 265 = .ok (.invokevirtual 170, 3) := by decide +kernel
theorem dX8_reaches_268 : decode cX8_reaches 268 = .ok (.ifCond .eq 7, 3) := by decide +kernel
theorem dX8_reaches_271 : decode cX8_reaches 271 = .ok (.iconst 1, 1) := by decide +kernel
theorem dX8_reaches_272 : decode cX8_reaches 272 = .ok (.goto 4, 3) := by decide +kernel
theorem dX8_reaches_275 : decode cX8_reaches 275 = .ok (.iconst 0, 1) := by decide +kernel
theorem dX8_reaches_276 : decode cX8_reaches 276 = .ok (.ireturn, 1) := by decide +kernel
theorem dX8_reaches_277 : decode cX8_reaches 277 = .ok (.iload 11, 2) := by decide +kernel
theorem dX8_reaches_279 : decode cX8_reaches 279 = .ok (.ifCond .eq 18, 3) := by decide +kernel
theorem dX8_reaches_282 : decode cX8_reaches 282 = .ok (.aload_n 0, 1) := by decide +kernel
theorem dX8_reaches_283 : decode cX8_reaches 283 = .ok (.iload_n 2, 1) := by decide +kernel
theorem dX8_reaches_284 : decode cX8_reaches 284 = .ok (.iload_n 3, 1) := by decide +kernel
theorem dX8_reaches_285 : decode cX8_reaches 285 = .ok (.iload 4, 2) := by decide +kernel
theorem dX8_reaches_287 : decode cX8_reaches 287 = .ok (.invokevirtual 170, 3) := by decide +kernel
theorem dX8_reaches_290 : decode cX8_reaches 290 = .ok (.ifCond .eq 7, 3) := by decide +kernel
theorem dX8_reaches_293 : decode cX8_reaches 293 = .ok (.iconst 1, 1) := by decide +kernel
theorem dX8_reaches_294 : decode cX8_reaches 294 = .ok (.goto 4, 3) := by decide +kernel
theorem dX8_reaches_297 : decode cX8_reaches 297 = .ok (.iconst 0, 1) := by decide +kernel
theorem dX8_reaches_298 : decode cX8_reaches 298 = .ok (.ireturn, 1) := by decide +kernel
theorem dX8_reaches_299 : decode cX8_reaches 299 = .ok (.iload 10, 2) := by decide +kernel
theorem dX8_reaches_301 : decode cX8_reaches 301 = .ok (.ifCond .ne 8, 3) := by decide +kernel
theorem dX8_reaches_304 : decode cX8_reaches 304 = .ok (.iload 11, 2) := by decide +kernel
theorem dX8_reaches_306 : decode cX8_reaches 306 = .ok (.ifCond .eq 18, 3) := by decide +kernel
theorem dX8_reaches_309 : decode cX8_reaches 309 = .ok (.aload_n 0, 1) := by decide +kernel
theorem dX8_reaches_310 : decode cX8_reaches 310 = .ok (.iload_n 2, 1) := by decide +kernel
theorem dX8_reaches_311 : decode cX8_reaches 311 = .ok (.iload_n 3, 1) := by decide +kernel
theorem dX8_reaches_312 : decode cX8_reaches 312 = .ok (.iload 4, 2) := by decide +kernel
theorem dX8_reaches_314 : decode cX8_reaches 314 = .ok (.invokevirtual 170, 3) := by decide +kernel
theorem dX8_reaches_317 : decode cX8_reaches 317 = .ok (.ifCond .eq 7, 3) := by decide +kernel
theorem dX8_reaches_320 : decode cX8_reaches 320 = .ok (.iconst 1, 1) := by decide +kernel
theorem dX8_reaches_321 : decode cX8_reaches 321 = .ok (.goto 4, 3) := by decide +kernel
theorem dX8_reaches_324 : decode cX8_reaches 324 = .ok (.iconst 0, 1) := by decide +kernel
theorem dX8_reaches_325 : decode cX8_reaches 325 = .ok (.ireturn, 1) := by decide +kernel
theorem dX8_reaches_326 : decode cX8_reaches 326 = .ok (.iload 7, 2) := by decide +kernel
theorem dX8_reaches_328 : decode cX8_reaches 328 = .ok (.iconst 2, 1) := by decide +kernel
theorem dX8_reaches_329 : decode cX8_reaches 329 = .ok (.if_icmp .ne 8, 3) := by decide +kernel
theorem dX8_reaches_332 : decode cX8_reaches 332 = .ok (.iload 9, 2) := by decide +kernel
theorem dX8_reaches_334 : decode cX8_reaches 334 = .ok (.ifCond .eq 14, 3) := by decide +kernel
theorem dX8_reaches_337 : decode cX8_reaches 337 = .ok (.iload 7, 2) := by decide +kernel
theorem dX8_reaches_339 : decode cX8_reaches 339 = .ok (.ifCond .ne 13, 3) := by decide +kernel
theorem dX8_reaches_342 : decode cX8_reaches 342 = .ok (.iload 9, 2) := by decide +kernel
theorem dX8_reaches_344 : decode cX8_reaches 344 = .ok (.iconst 2, 1) := by decide +kernel
theorem dX8_reaches_345 : decode cX8_reaches 345 = .ok (.if_icmp .ne 7, 3) := by decide +kernel
theorem dX8_reaches_348 : decode cX8_reaches 348 = .ok (.iconst 1, 1) := by decide +kernel
theorem dX8_reaches_349 : decode cX8_reaches 349 = .ok (.goto 4, 3) := by decide +kernel
theorem dX8_reaches_352 : decode cX8_reaches 352 = .ok (.iconst 0, 1) := by decide +kernel
theorem dX8_reaches_353 : decode cX8_reaches 353 = .ok (.ireturn, 1) := by decide +kernel
theorem dX8_reaches_354 : decode cX8_reaches 354 = .ok (.iload 8, 2) := by decide +kernel
theorem dX8_reaches_356 : decode cX8_reaches 356 = .ok (.aload_n 0, 1) := by decide +kernel
theorem dX8_reaches_357 : decode cX8_reaches 357 = .ok (.iload_n 1, 1) := by decide +kernel
theorem dX8_reaches_358 : decode cX8_reaches 358 = .ok (.invokevirtual 158, 3) := by decide +kernel
theorem dX8_reaches_361 : decode cX8_reaches 361 = .ok (.ifCond .eq 7, 3) := by decide +kernel
theorem dX8_reaches_364 : decode cX8_reaches 364 = .ok (.iconst 1, 1) := by decide +kernel
theorem dX8_reaches_365 : decode cX8_reaches 365 = .ok (.goto 4, 3) := by decide +kernel
theorem dX8_reaches_368 : decode cX8_reaches 368 = .ok (.iconst (-1), 1) := by decide +kernel
theorem dX8_reaches_369 : decode cX8_reaches 369 = .ok (.if_icmp .ne 22, 3) := by decide +kernel
theorem dX8_reaches_372 : decode cX8_reaches 372 = .ok (.iload 7, 2) := by decide +kernel
theorem dX8_reaches_374 : decode cX8_reaches 374 = .ok (.iload 5, 2) := by decide +kernel
theorem dX8_reaches_376 : decode cX8_reaches 376 = .ok (.ifCond .eq 7, 3) := by decide +kernel
theorem dX8_reaches_379 : decode cX8_reaches 379 = .ok (.iconst 1, 1) := by decide +kernel
theorem dX8_reaches_380 : decode cX8_reaches 380 = .ok (.goto 4, 3) := by decide +kernel
theorem dX8_reaches_383 : decode cX8_reaches 383 = .ok (.iconst 0, 1) := by decide +kernel
theorem dX8_reaches_384 : decode cX8_reaches 384 = .ok (.if_icmp .ne 7, 3) := by decide +kernel
theorem dX8_reaches_387 : decode cX8_reaches 387 = .ok (.iconst 1, 1) := by decide +kernel
theorem dX8_reaches_388 : decode cX8_reaches 388 = .ok (.goto 4, 3) := by decide +kernel
theorem dX8_reaches_391 : decode cX8_reaches 391 = .ok (.iconst 0, 1) := by decide +kernel
theorem dX8_reaches_392 : decode cX8_reaches 392 = .ok (.ireturn, 1) := by decide +kernel
theorem dX8_isAttacked_0 : decode cX8_isAttacked 0 = .ok (.aload_n 0, 1) := by decide +kernel
theorem dX8_isAttacked_1 : decode cX8_isAttacked 1 = .ok (.aload_n 1, 1) := by decide +kernel
theorem dX8_isAttacked_2 : decode cX8_isAttacked 2 = .ok (.invokevirtual 173, 3) := by decide +kernel
theorem dX8_isAttacked_5 : decode cX8_isAttacked 5 = .ok (.istore 4, 2) := by decide +kernel
theorem dX8_isAttacked_7 : decode cX8_isAttacked 7 = .ok (.iconst 0, 1) := by decide +kernel
theorem dX8_isAttacked_8 : decode cX8_isAttacked 8 = .ok (.istore 5, 2) := by decide +kernel
theorem dX8_isAttacked_10 : decode cX8_isAttacked 10 = .ok (.iconst 0, 1) := by decide +kernel
theorem dX8_isAttacked_11 : decode cX8_isAttacked 11 = .ok (.istore 6, 2) := by decide +kernel
theorem dX8_isAttacked_13 : decode cX8_isAttacked 13 = .ok (.iload 6, 2) := by decide +kernel
theorem dX8_isAttacked_15 : decode cX8_isAttacked 15 = .ok (.aload_n 0, 1) := by decide +kernel
theorem dX8_isAttacked_16 : decode cX8_isAttacked 16 = .ok (.getfield 13, 3) := by decide +kernel
theorem dX8_isAttacked_19 : decode cX8_isAttacked 19 = .ok (.iconst 2, 1) := by decide +kernel
theorem dX8_isAttacked_20 : decode cX8_isAttacked 20 = .ok (.iaload, 1) := by decide +kernel
theorem dX8_isAttacked_21 : decode cX8_isAttacked 21 = .ok (.if_icmp .ge 57, 3) := by decide +kernel
theorem dX8_isAttacked_24 : decode cX8_isAttacked 24 = .ok (.iload 5, 2) := by decide +kernel
theorem dX8_isAttacked_26 : decode cX8_isAttacked 26 = .ok (.aload_n 0, 1) := by decide +kernel
theorem dX8_isAttacked_27 : decode cX8_isAttacked 27 = .ok (.iload 6, 2) := by decide +kernel
theorem dX8_isAttacked_29 : decode cX8_isAttacked 29 = .ok (.iload_n 3, 1) := by decide +kernel
theorem dX8_isAttacked_30 : decode cX8_isAttacked 30 = .ok (.invokevirtual 177, 3) := by decide +kernel
theorem dX8_isAttacked_33 : decode cX8_isAttacked 33 = .ok (.ifCond .eq 35, 3) := by decide +kernel
theorem dX8_isAttacked_36 : decode cX8_isAttacked 36 = .ok (.aload_n 1, 1) := by decide +kernel
theorem dX8_isAttacked_37 : decode cX8_isAttacked 37 = .ok (.iload 6, 2) := by decide +kernel
theorem dX8_isAttacked_39 : decode cX8_isAttacked 39 = .ok (.iaload, 1) := by decide +kernel
theorem dX8_isAttacked_40 : decode cX8_isAttacked 40 = .ok (.aload_n 0, 1) := by decide +kernel
theorem dX8_isAttacked_41 : decode cX8_isAttacked 41 = .ok (.invokevirtual 152, 3) := by decide +kernel
theorem dX8_isAttacked_44 : decode cX8_isAttacked 44 = .ok (.if_icmp .ge 24, 3) := by decide +kernel
theorem dX8_isAttacked_47 : decode cX8_isAttacked 47 = .ok (.aload_n 0, 1) := by decide +kernel
theorem dX8_isAttacked_48 : decode cX8_isAttacked 48 = .ok (.iload 6, 2) := by decide +kernel
theorem dX8_isAttacked_50 : decode cX8_isAttacked 50 = .ok (.aload_n 1, 1) := by decide +kernel
theorem dX8_isAttacked_51 : decode cX8_isAttacked 51 = .ok (.iload 6, 2) := by decide +kernel
theorem dX8_isAttacked_53 : decode cX8_isAttacked 53 = .ok (.iaload, 1) := by decide +kernel
theorem dX8_isAttacked_54 : decode cX8_isAttacked 54 = .ok (.iload_n 2, 1) := by decide +kernel
theorem dX8_isAttacked_55 : decode cX8_isAttacked 55 = .ok (.iload 4, 2) := by decide +kernel
theorem dX8_isAttacked_57 : decode cX8_isAttacked 57 = .ok (.iconst 1, 1) := by decide +kernel
theorem dX8_isAttacked_58 : decode cX8_isAttacked 58 = .ok (.invokevirtual 180, 3) := by decide +kernel
theorem dX8_isAttacked_61 : decode cX8_isAttacked 61 = .ok (.ifCond .eq 7, 3) := by decide +kernel
theorem dX8_isAttacked_64 : decode cX8_isAttacked 64 = .ok (.iconst 1, 1) := by decide +kernel
theorem dX8_isAttacked_65 : decode cX8_isAttacked 65 = .ok (.goto 4, 3) := by decide +kernel
theorem dX8_isAttacked_68 : decode cX8_isAttacked 68 = .ok (.iconst 0, 1) := by decide +kernel
theorem dX8_isAttacked_69 : decode cX8_isAttacked 69 = .ok (.ior, 1) := by decide +kernel
theorem dX8_isAttacked_70 : decode cX8_isAttacked 70 = .ok (.istore 5, 2) := by decide +kernel
theorem dX8_isAttacked_72 : decode cX8_isAttacked 72 = .ok (.iinc 6 1, 3) := by decide +kernel
theorem dX8_isAttacked_75 : decode cX8_isAttacked 75 = .ok (.goto (-62), 3) := by decide +kernel
theorem dX8_isAttacked_78 : decode cX8_isAttacked 78 = .ok (.iload 5, 2) := by decide +kernel
theorem dX8_isAttacked_80 : decode cX8_isAttacked 80 = .ok (.ireturn, 1) := by decide +kernel
theorem dX8_isInCheck_0 : decode cX8_isInCheck 0 = .ok (.aload_n 0, 1) := by decide +kernel
theorem dX8_isInCheck_1 : decode cX8_isInCheck 1 = .ok (.aload_n 1, 1) := by decide +kernel
theorem dX8_isInCheck_2 : decode cX8_isInCheck 2 = .ok (.aload_n 1, 1) := by decide +kernel
theorem dX8_isInCheck_3 : decode cX8_isInCheck 3 = .ok (.aload_n 0, 1) := by decide +kernel
theorem dX8_isInCheck_4 : decode cX8_isInCheck 4 = .ok (.iload_n 2, 1) := by decide +kernel
theorem dX8_isInCheck_5 : decode cX8_isInCheck 5 = .ok (.invokevirtual 184, 3) := by decide +kernel
theorem dX8_isInCheck_8 : decode cX8_isInCheck 8 = .ok (.iaload, 1) := by decide +kernel
theorem dX8_isInCheck_9 : decode cX8_isInCheck 9 = .ok (.iconst 1, 1) := by decide +kernel
theorem dX8_isInCheck_10 : decode cX8_isInCheck 10 = .ok (.iload_n 2, 1) := by decide +kernel
theorem dX8_isInCheck_11 : decode cX8_isInCheck 11 = .ok (.isub, 1) := by decide +kernel
theorem dX8_isInCheck_12 : decode cX8_isInCheck 12 = .ok (.invokevirtual 187, 3) := by decide +kernel
theorem dX8_isInCheck_15 : decode cX8_isInCheck 15 = .ok (.ireturn, 1) := by decide +kernel
theorem dX8_isPossible_0 : decode cX8_isPossible 0 = .ok (.iconst 1, 1) := by decide +kernel
theorem dX8_isPossible_1 : decode cX8_isPossible 1 = .ok (.istore_n 3, 1) := by decide +kernel
theorem dX8_isPossible_2 : decode cX8_isPossible 2 = .ok (.aload_n 0, 1) := by decide +kernel
theorem dX8_isPossible_3 : decode cX8_isPossible 3 = .ok (.getfield 13, 3) := by decide +kernel
theorem dX8_isPossible_6 : decode cX8_isPossible 6 = .ok (.iconst 4, 1) := by decide +kernel
theorem dX8_isPossible_7 : decode cX8_isPossible 7 = .ok (.iaload, 1) := by decide +kernel
theorem dX8_isPossible_8 : decode cX8_isPossible 8 = .ok (.istore 4, 2) := by decide +kernel
theorem dX8_isPossible_10 : decode cX8_isPossible 10 = .ok (.iconst 0, 1) := by decide +kernel
theorem dX8_isPossible_11 : decode cX8_isPossible 11 = .ok (.istore 5, 2) := by decide +kernel
theorem dX8_isPossible_13 : decode cX8_isPossible 13 = .ok (.iload 5, 2) := by decide +kernel
theorem dX8_isPossible_15 : decode cX8_isPossible 15 = .ok (.iconst 3, 1) := by decide +kernel
theorem dX8_isPossible_16 : decode cX8_isPossible 16 = .ok (.if_icmp .ge 138, 3) := by decide +kernel
theorem dX8_isPossible_19 : decode cX8_isPossible 19 = .ok (.iload 5, 2) := by decide +kernel
theorem dX8_isPossible_21 : decode cX8_isPossible 21 = .ok (.aload_n 0, 1) := by decide +kernel
theorem dX8_isPossible_22 : decode cX8_isPossible 22 = .ok (.getfield 13, 3) := by decide +kernel
theorem dX8_isPossible_25 : decode cX8_isPossible 25 = .ok (.iconst 2, 1) := by decide +kernel
theorem dX8_isPossible_26 : decode cX8_isPossible 26 = .ok (.iaload, 1) := by decide +kernel
theorem dX8_isPossible_27 : decode cX8_isPossible 27 = .ok (.if_icmp .ge 18, 3) := by decide +kernel
theorem dX8_isPossible_30 : decode cX8_isPossible 30 = .ok (.aload_n 1, 1) := by decide +kernel
theorem dX8_isPossible_31 : decode cX8_isPossible 31 = .ok (.iload 5, 2) := by decide +kernel
theorem dX8_isPossible_33 : decode cX8_isPossible 33 = .ok (.iaload, 1) := by decide +kernel
theorem dX8_isPossible_34 : decode cX8_isPossible 34 = .ok (.aload_n 0, 1) := by decide +kernel
theorem dX8_isPossible_35 : decode cX8_isPossible 35 = .ok (.invokevirtual 152, 3) := by decide +kernel
theorem dX8_isPossible_38 : decode cX8_isPossible 38 = .ok (.if_icmp .ge 7, 3) := by decide +kernel
theorem dX8_isPossible_41 : decode cX8_isPossible 41 = .ok (.iconst 1, 1) := by decide +kernel
theorem dX8_isPossible_42 : decode cX8_isPossible 42 = .ok (.goto 4, 3) := by decide +kernel
theorem dX8_isPossible_45 : decode cX8_isPossible 45 = .ok (.iconst 0, 1) := by decide +kernel
theorem dX8_isPossible_46 : decode cX8_isPossible 46 = .ok (.istore 6, 2) := by decide +kernel
theorem dX8_isPossible_48 : decode cX8_isPossible 48 = .ok (.iload 5, 2) := by decide +kernel
theorem dX8_isPossible_50 : decode cX8_isPossible 50 = .ok (.ifCond .eq 14, 3) := by decide +kernel
theorem dX8_isPossible_53 : decode cX8_isPossible 53 = .ok (.iload 5, 2) := by decide +kernel
theorem dX8_isPossible_55 : decode cX8_isPossible 55 = .ok (.aload_n 0, 1) := by decide +kernel
theorem dX8_isPossible_56 : decode cX8_isPossible 56 = .ok (.getfield 13, 3) := by decide +kernel
theorem dX8_isPossible_59 : decode cX8_isPossible 59 = .ok (.iconst 3, 1) := by decide +kernel
theorem dX8_isPossible_60 : decode cX8_isPossible 60 = .ok (.iaload, 1) := by decide +kernel
theorem dX8_isPossible_61 : decode cX8_isPossible 61 = .ok (.if_icmp .ne 7, 3) := by decide +kernel
theorem dX8_isPossible_64 : decode cX8_isPossible 64 = .ok (.iconst 1, 1) := by decide +kernel
theorem dX8_isPossible_65 : decode cX8_isPossible 65 = .ok (.goto 4, 3) := by decide +kernel
theorem dX8_isPossible_68 : decode cX8_isPossible 68 = .ok (.iconst 0, 1) := by decide +kernel
theorem dX8_isPossible_69 : decode cX8_isPossible 69 = .ok (.istore 7, 2) := by decide +kernel
theorem dX8_isPossible_71 : decode cX8_isPossible 71 = .ok (.iload_n 3, 1) := by decide +kernel
theorem dX8_isPossible_72 : decode cX8_isPossible 72 = .ok (.iload 6, 2) := by decide +kernel
theorem dX8_isPossible_74 : decode cX8_isPossible 74 = .ok (.ifCond .ne 8, 3) := by decide +kernel
theorem dX8_isPossible_77 : decode cX8_isPossible 77 = .ok (.iload 7, 2) := by decide +kernel
theorem dX8_isPossible_79 : decode cX8_isPossible 79 = .ok (.ifCond .ne 46, 3) := by decide +kernel
theorem dX8_isPossible_82 : decode cX8_isPossible 82 = .ok (.iload 6, 2) := by decide +kernel
theorem dX8_isPossible_84 : decode cX8_isPossible 84 = .ok (.ifCond .eq 15, 3) := by decide +kernel
theorem dX8_isPossible_87 : decode cX8_isPossible 87 = .ok (.iload 4, 2) := by decide +kernel
theorem dX8_isPossible_89 : decode cX8_isPossible 89 = .ok (.aload_n 1, 1) := by decide +kernel
theorem dX8_isPossible_90 : decode cX8_isPossible 90 = .ok (.iload 5, 2) := by decide +kernel
theorem dX8_isPossible_92 : decode cX8_isPossible 92 = .ok (.iaload, 1) := by decide +kernel
theorem dX8_isPossible_93 : decode cX8_isPossible 93 = .ok (.invokestatic 164, 3) := by decide +kernel
theorem dX8_isPossible_96 : decode cX8_isPossible 96 = .ok (.ifCond .ne 29, 3) := by decide +kernel
theorem dX8_isPossible_99 : decode cX8_isPossible 99 = .ok (.iload 5, 2) := by decide +kernel
theorem dX8_isPossible_101 : decode cX8_isPossible 101 = .ok (.aload_n 0, 1) := by decide +kernel
theorem dX8_isPossible_102 : decode cX8_isPossible 102 = .ok (.getfield 13, 3) := by decide +kernel
theorem dX8_isPossible_105 : decode cX8_isPossible 105 = .ok (.iconst 2, 1) := by decide +kernel
theorem dX8_isPossible_106 : decode cX8_isPossible 106 = .ok (.iaload, 1) := by decide +kernel
theorem dX8_isPossible_107 : decode cX8_isPossible 107 = .ok (.if_icmp .lt 14, 3) := by decide +kernel
theorem dX8_isPossible_110 : decode cX8_isPossible 110 = .ok (.aload_n 1, 1) := by decide +kernel
theorem dX8_isPossible_111 : decode cX8_isPossible 111 = .ok (.iload 5, 2) := by decide +kernel
theorem dX8_isPossible_113 : decode cX8_isPossible 113 = .ok (.iaload, 1) := by decide +kernel
theorem dX8_isPossible_114 : decode cX8_isPossible 114 = .ok (.aload_n 0, 1) := by decide +kernel
theorem dX8_isPossible_115 : decode cX8_isPossible 115 = .ok (.invokevirtual 152, 3) := by decide +kernel
theorem dX8_isPossible_118 : decode cX8_isPossible 118 = .ok (.if_icmp .ne 7, 3) := by decide +kernel
theorem dX8_isPossible_121 : decode cX8_isPossible 121 = .ok (.iconst 1, 1) := by decide +kernel
theorem dX8_isPossible_122 : decode cX8_isPossible 122 = .ok (.goto 4, 3) := by decide +kernel
theorem dX8_isPossible_125 : decode cX8_isPossible 125 = .ok (.iconst 0, 1) := by decide +kernel
theorem dX8_isPossible_126 : decode cX8_isPossible 126 = .ok (.iand, 1) := by decide +kernel
theorem dX8_isPossible_127 : decode cX8_isPossible 127 = .ok (.istore_n 3, 1) := by decide +kernel
theorem dX8_isPossible_128 : decode cX8_isPossible 128 = .ok (.iload 4, 2) := by decide +kernel
theorem dX8_isPossible_130 : decode cX8_isPossible 130 = .ok (.iload 6, 2) := by decide +kernel
theorem dX8_isPossible_132 : decode cX8_isPossible 132 = .ok (.ifCond .eq 12, 3) := by decide +kernel
theorem dX8_isPossible_135 : decode cX8_isPossible 135 = .ok (.iconst 1, 1) := by decide +kernel
theorem dX8_isPossible_136 : decode cX8_isPossible 136 = .ok (.aload_n 1, 1) := by decide +kernel
theorem dX8_isPossible_137 : decode cX8_isPossible 137 = .ok (.iload 5, 2) := by decide +kernel
theorem dX8_isPossible_139 : decode cX8_isPossible 139 = .ok (.iaload, 1) := by decide +kernel
theorem dX8_isPossible_140 : decode cX8_isPossible 140 = .ok (.ishl, 1) := by decide +kernel
theorem dX8_isPossible_141 : decode cX8_isPossible 141 = .ok (.goto 4, 3) := by decide +kernel
theorem dX8_isPossible_144 : decode cX8_isPossible 144 = .ok (.iconst 0, 1) := by decide +kernel
theorem dX8_isPossible_145 : decode cX8_isPossible 145 = .ok (.ior, 1) := by decide +kernel
theorem dX8_isPossible_146 : decode cX8_isPossible 146 = .ok (.istore 4, 2) := by decide +kernel
theorem dX8_isPossible_148 : decode cX8_isPossible 148 = .ok (.iinc 5 1, 3) := by decide +kernel
theorem dX8_isPossible_151 : decode cX8_isPossible 151 = .ok (.goto (-138), 3) := by decide +kernel
theorem dX8_isPossible_154 : decode cX8_isPossible 154 = .ok (.iload_n 3, 1) := by decide +kernel
theorem dX8_isPossible_155 : decode cX8_isPossible 155 = .ok (.ifCond .eq 18, 3) := by decide +kernel
theorem dX8_isPossible_158 : decode cX8_isPossible 158 = .ok (.aload_n 0, 1) := by decide +kernel
theorem dX8_isPossible_159 : decode cX8_isPossible 159 = .ok (.aload_n 1, 1) := by decide +kernel
theorem dX8_isPossible_160 : decode cX8_isPossible 160 = .ok (.iconst 1, 1) := by decide +kernel
theorem dX8_isPossible_161 : decode cX8_isPossible 161 = .ok (.iload_n 2, 1) := by decide +kernel
theorem dX8_isPossible_162 : decode cX8_isPossible 162 = .ok (.isub, 1) := by decide +kernel
theorem dX8_isPossible_163 : decode cX8_isPossible 163 = .ok (.invokevirtual 191, 3) := by decide +kernel
theorem dX8_isPossible_166 : decode cX8_isPossible 166 = .ok (.ifCond .ne 7, 3) := by decide +kernel
theorem dX8_isPossible_169 : decode cX8_isPossible 169 = .ok (.iconst 1, 1) := by decide +kernel
theorem dX8_isPossible_170 : decode cX8_isPossible 170 = .ok (.goto 4, 3) := by decide +kernel
theorem dX8_isPossible_173 : decode cX8_isPossible 173 = .ok (.iconst 0, 1) := by decide +kernel
theorem dX8_isPossible_174 : decode cX8_isPossible 174 = .ok (.ireturn, 1) := by decide +kernel
theorem dX8_manAt_0 : decode cX8_manAt 0 = .ok (.bipush (-5), 2) := by decide +kernel
theorem dX8_manAt_2 : decode cX8_manAt 2 = .ok (.istore_n 3, 1) := by decide +kernel
theorem dX8_manAt_3 : decode cX8_manAt 3 = .ok (.iconst 0, 1) := by decide +kernel
theorem dX8_manAt_4 : decode cX8_manAt 4 = .ok (.istore 4, 2) := by decide +kernel
theorem dX8_manAt_6 : decode cX8_manAt 6 = .ok (.iload 4, 2) := by decide +kernel
theorem dX8_manAt_8 : decode cX8_manAt 8 = .ok (.aload_n 0, 1) := by decide +kernel
theorem dX8_manAt_9 : decode cX8_manAt 9 = .ok (.getfield 13, 3) := by decide +kernel
theorem dX8_manAt_12 : decode cX8_manAt 12 = .ok (.iconst 2, 1) := by decide +kernel
theorem dX8_manAt_13 : decode cX8_manAt 13 = .ok (.iaload, 1) := by decide +kernel
theorem dX8_manAt_14 : decode cX8_manAt 14 = .ok (.if_icmp .ge 24, 3) := by decide +kernel
theorem dX8_manAt_17 : decode cX8_manAt 17 = .ok (.aload_n 1, 1) := by decide +kernel
theorem dX8_manAt_18 : decode cX8_manAt 18 = .ok (.iload 4, 2) := by decide +kernel
theorem dX8_manAt_20 : decode cX8_manAt 20 = .ok (.iaload, 1) := by decide +kernel
theorem dX8_manAt_21 : decode cX8_manAt 21 = .ok (.iload_n 2, 1) := by decide +kernel
theorem dX8_manAt_22 : decode cX8_manAt 22 = .ok (.if_icmp .ne 8, 3) := by decide +kernel
theorem dX8_manAt_25 : decode cX8_manAt 25 = .ok (.iload 4, 2) := by decide +kernel
theorem dX8_manAt_27 : decode cX8_manAt 27 = .ok (.goto 4, 3) := by decide +kernel
theorem dX8_manAt_30 : decode cX8_manAt 30 = .ok (.iload_n 3, 1) := by decide +kernel
theorem dX8_manAt_31 : decode cX8_manAt 31 = .ok (.istore_n 3, 1) := by decide +kernel
theorem dX8_manAt_32 : decode cX8_manAt 32 = .ok (.iinc 4 1, 3) := by decide +kernel
theorem dX8_manAt_35 : decode cX8_manAt 35 = .ok (.goto (-29), 3) := by decide +kernel
theorem dX8_manAt_38 : decode cX8_manAt 38 = .ok (.iload_n 3, 1) := by decide +kernel
theorem dX8_manAt_39 : decode cX8_manAt 39 = .ok (.ireturn, 1) := by decide +kernel
theorem dX8_tryMove_0 : decode cX8_tryMove 0 = .ok (.aload_n 0, 1) := by decide +kernel
theorem dX8_tryMove_1 : decode cX8_tryMove 1 = .ok (.getfield 24, 3) := by decide +kernel
theorem dX8_tryMove_4 : decode cX8_tryMove 4 = .ok (.iload_n 1, 1) := by decide +kernel
theorem dX8_tryMove_5 : decode cX8_tryMove 5 = .ok (.aaload, 1) := by decide +kernel
theorem dX8_tryMove_6 : decode cX8_tryMove 6 = .ok (.astore 5, 2) := by decide +kernel
theorem dX8_tryMove_8 : decode cX8_tryMove 8 = .ok (.aload 5, 2) := by decide +kernel
theorem dX8_tryMove_10 : decode cX8_tryMove 10 = .ok (.iload_n 2, 1) := by decide +kernel
theorem dX8_tryMove_11 : decode cX8_tryMove 11 = .ok (.iaload, 1) := by decide +kernel
theorem dX8_tryMove_12 : decode cX8_tryMove 12 = .ok (.istore 6, 2) := by decide +kernel
theorem dX8_tryMove_14 : decode cX8_tryMove 14 = .ok (.aload_n 0, 1) := by decide +kernel
theorem dX8_tryMove_15 : decode cX8_tryMove 15 = .ok (.aload 5, 2) := by decide +kernel
theorem dX8_tryMove_17 : decode cX8_tryMove 17 = .ok (.iload_n 3, 1) := by decide +kernel
theorem dX8_tryMove_18 : decode cX8_tryMove 18 = .ok (.invokevirtual 195, 3) := by decide +kernel
theorem dX8_tryMove_21 : decode cX8_tryMove 21 = .ok (.istore 7, 2) := by decide +kernel
theorem dX8_tryMove_23 : decode cX8_tryMove 23 = .ok (.aload_n 0, 1) := by decide +kernel
theorem dX8_tryMove_24 : decode cX8_tryMove 24 = .ok (.getfield 13, 3) := by decide +kernel
theorem dX8_tryMove_27 : decode cX8_tryMove 27 = .ok (.iconst 4, 1) := by decide +kernel
theorem dX8_tryMove_28 : decode cX8_tryMove 28 = .ok (.iaload, 1) := by decide +kernel
theorem dX8_tryMove_29 : decode cX8_tryMove 29 = .ok (.iload_n 3, 1) := by decide +kernel
theorem dX8_tryMove_30 : decode cX8_tryMove 30 = .ok (.invokestatic 164, 3) := by decide +kernel
theorem dX8_tryMove_33 : decode cX8_tryMove 33 = .ok (.ifCond .ne 29, 3) := by decide +kernel
theorem dX8_tryMove_36 : decode cX8_tryMove 36 = .ok (.iload_n 3, 1) := by decide +kernel
theorem dX8_tryMove_37 : decode cX8_tryMove 37 = .ok (.iload 6, 2) := by decide +kernel
theorem dX8_tryMove_39 : decode cX8_tryMove 39 = .ok (.if_icmp .eq 23, 3) := by decide +kernel
theorem dX8_tryMove_42 : decode cX8_tryMove 42 = .ok (.iload 7, 2) := by decide +kernel
theorem dX8_tryMove_44 : decode cX8_tryMove 44 = .ok (.ifCond .lt 14, 3) := by decide +kernel
theorem dX8_tryMove_47 : decode cX8_tryMove 47 = .ok (.aload_n 0, 1) := by decide +kernel
theorem dX8_tryMove_48 : decode cX8_tryMove 48 = .ok (.iload 7, 2) := by decide +kernel
theorem dX8_tryMove_50 : decode cX8_tryMove 50 = .ok (.iload 4, 2) := by decide +kernel
theorem dX8_tryMove_52 : decode cX8_tryMove 52 = .ok (.invokevirtual 177, 3) := by decide +kernel
theorem dX8_tryMove_55 : decode cX8_tryMove 55 = .ok (.ifCond .ne 7, 3) := by decide +kernel
theorem dX8_tryMove_58 : decode cX8_tryMove 58 = .ok (.iconst 1, 1) := by decide +kernel
theorem dX8_tryMove_59 : decode cX8_tryMove 59 = .ok (.goto 4, 3) := by decide +kernel
theorem dX8_tryMove_62 : decode cX8_tryMove 62 = .ok (.iconst 0, 1) := by decide +kernel
theorem dX8_tryMove_63 : decode cX8_tryMove 63 = .ok (.istore 8, 2) := by decide +kernel
theorem dX8_tryMove_65 : decode cX8_tryMove 65 = .ok (.iload 8, 2) := by decide +kernel
theorem dX8_tryMove_67 : decode cX8_tryMove 67 = .ok (.ifCond .eq 30, 3) := by decide +kernel
theorem dX8_tryMove_70 : decode cX8_tryMove 70 = .ok (.aload_n 0, 1) := by decide +kernel
theorem dX8_tryMove_71 : decode cX8_tryMove 71 = .ok (.iload_n 2, 1) := by decide +kernel
theorem dX8_tryMove_72 : decode cX8_tryMove 72 = .ok (.iload 6, 2) := by decide +kernel
theorem dX8_tryMove_74 : decode cX8_tryMove 74 = .ok (.iload_n 3, 1) := by decide +kernel
theorem dX8_tryMove_75 : decode cX8_tryMove 75 = .ok (.aload_n 0, 1) := by decide +kernel
theorem dX8_tryMove_76 : decode cX8_tryMove 76 = .ok (.aload 5, 2) := by decide +kernel
theorem dX8_tryMove_78 : decode cX8_tryMove 78 = .ok (.invokevirtual 173, 3) := by decide +kernel
theorem dX8_tryMove_81 : decode cX8_tryMove 81 = .ok (.iload 7, 2) := by decide +kernel
theorem dX8_tryMove_83 : decode cX8_tryMove 83 = .ok (.ifCond .lt 7, 3) := by decide +kernel
theorem dX8_tryMove_86 : decode cX8_tryMove 86 = .ok (.iconst 1, 1) := by decide +kernel
theorem dX8_tryMove_87 : decode cX8_tryMove 87 = .ok (.goto 4, 3) := by decide +kernel
theorem dX8_tryMove_90 : decode cX8_tryMove 90 = .ok (.iconst 0, 1) := by decide +kernel
theorem dX8_tryMove_91 : decode cX8_tryMove 91 = .ok (.invokevirtual 180, 3) := by decide +kernel
theorem dX8_tryMove_94 : decode cX8_tryMove 94 = .ok (.ifCond .ne 4, 3) := by decide +kernel
theorem dX8_tryMove_97 : decode cX8_tryMove 97 = .ok (.return_, 1) := by decide +kernel
theorem dX8_tryMove_98 : decode cX8_tryMove 98 = .ok (.aload 5, 2) := by decide +kernel
theorem dX8_tryMove_100 : decode cX8_tryMove 100 = .ok (.iload_n 2, 1) := by decide +kernel
theorem dX8_tryMove_101 : decode cX8_tryMove 101 = .ok (.iload_n 3, 1) := by decide +kernel
theorem dX8_tryMove_102 : decode cX8_tryMove 102 = .ok (.iastore, 1) := by decide +kernel
theorem dX8_tryMove_103 : decode cX8_tryMove 103 = .ok (.iload 7, 2) := by decide +kernel
theorem dX8_tryMove_105 : decode cX8_tryMove 105 = .ok (.ifCond .lt 12, 3) := by decide +kernel
theorem dX8_tryMove_108 : decode cX8_tryMove 108 = .ok (.aload 5, 2) := by decide +kernel
theorem dX8_tryMove_110 : decode cX8_tryMove 110 = .ok (.iload 7, 2) := by decide +kernel
theorem dX8_tryMove_112 : decode cX8_tryMove 112 = .ok (.aload_n 0, 1) := by decide +kernel
theorem dX8_tryMove_113 : decode cX8_tryMove 113 = .ok (.invokevirtual 152, 3) := by decide +kernel
theorem dX8_tryMove_116 : decode cX8_tryMove 116 = .ok (.iastore, 1) := by decide +kernel
theorem dX8_tryMove_117 : decode cX8_tryMove 117 = .ok (.aload_n 0, 1) := by decide +kernel
theorem dX8_tryMove_118 : decode cX8_tryMove 118 = .ok (.aload 5, 2) := by decide +kernel
theorem dX8_tryMove_120 : decode cX8_tryMove 120 = .ok (.iload 4, 2) := by decide +kernel
theorem dX8_tryMove_122 : decode cX8_tryMove 122 = .ok (.invokevirtual 191, 3) := by decide +kernel
theorem dX8_tryMove_125 : decode cX8_tryMove 125 = .ok (.ifCond .ne 71, 3) := by decide +kernel
theorem dX8_tryMove_128 : decode cX8_tryMove 128 = .ok (.aload_n 0, 1) := by decide +kernel
theorem dX8_tryMove_129 : decode cX8_tryMove 129 = .ok (.getfield 27, 3) := by decide +kernel
theorem dX8_tryMove_132 : decode cX8_tryMove 132 = .ok (.iload_n 1, 1) := by decide +kernel
theorem dX8_tryMove_133 : decode cX8_tryMove 133 = .ok (.iaload, 1) := by decide +kernel
theorem dX8_tryMove_134 : decode cX8_tryMove 134 = .ok (.istore 9, 2) := by decide +kernel
theorem dX8_tryMove_136 : decode cX8_tryMove 136 = .ok (.aload_n 0, 1) := by decide +kernel
theorem dX8_tryMove_137 : decode cX8_tryMove 137 = .ok (.getfield 30, 3) := by decide +kernel
theorem dX8_tryMove_140 : decode cX8_tryMove 140 = .ok (.iload_n 1, 1) := by decide +kernel
theorem dX8_tryMove_141 : decode cX8_tryMove 141 = .ok (.aaload, 1) := by decide +kernel
theorem dX8_tryMove_142 : decode cX8_tryMove 142 = .ok (.iload 9, 2) := by decide +kernel
theorem dX8_tryMove_144 : decode cX8_tryMove 144 = .ok (.iload_n 2, 1) := by decide +kernel
theorem dX8_tryMove_145 : decode cX8_tryMove 145 = .ok (.iastore, 1) := by decide +kernel
theorem dX8_tryMove_146 : decode cX8_tryMove 146 = .ok (.aload_n 0, 1) := by decide +kernel
theorem dX8_tryMove_147 : decode cX8_tryMove 147 = .ok (.getfield 33, 3) := by decide +kernel
theorem dX8_tryMove_150 : decode cX8_tryMove 150 = .ok (.iload_n 1, 1) := by decide +kernel
theorem dX8_tryMove_151 : decode cX8_tryMove 151 = .ok (.aaload, 1) := by decide +kernel
theorem dX8_tryMove_152 : decode cX8_tryMove 152 = .ok (.iload 9, 2) := by decide +kernel
theorem dX8_tryMove_154 : decode cX8_tryMove 154 = .ok (.iload_n 3, 1) := by decide +kernel
theorem dX8_tryMove_155 : decode cX8_tryMove 155 = .ok (.iastore, 1) := by decide +kernel
theorem dX8_tryMove_156 : decode cX8_tryMove 156 = .ok (.aload_n 0, 1) := by decide +kernel
theorem dX8_tryMove_157 : decode cX8_tryMove 157 = .ok (.getfield 36, 3) := by decide +kernel
theorem dX8_tryMove_160 : decode cX8_tryMove 160 = .ok (.iload_n 1, 1) := by decide +kernel
theorem dX8_tryMove_161 : decode cX8_tryMove 161 = .ok (.aaload, 1) := by decide +kernel
theorem dX8_tryMove_162 : decode cX8_tryMove 162 = .ok (.iload 9, 2) := by decide +kernel
theorem dX8_tryMove_164 : decode cX8_tryMove 164 = .ok (.iload 7, 2) := by decide +kernel
theorem dX8_tryMove_166 : decode cX8_tryMove 166 = .ok (.iastore, 1) := by decide +kernel
theorem dX8_tryMove_167 : decode cX8_tryMove 167 = .ok (.aload_n 0, 1) := by decide +kernel
theorem dX8_tryMove_168 : decode cX8_tryMove 168 = .ok (.getfield 39, 3) := by decide +kernel
theorem dX8_tryMove_171 : decode cX8_tryMove 171 = .ok (.iload_n 1, 1) := by decide +kernel
theorem dX8_tryMove_172 : decode cX8_tryMove 172 = .ok (.aaload, 1) := by decide +kernel
theorem dX8_tryMove_173 : decode cX8_tryMove 173 = .ok (.iload 9, 2) := by decide +kernel
theorem dX8_tryMove_175 : decode cX8_tryMove 175 = .ok (.aload_n 0, 1) := by decide +kernel
theorem dX8_tryMove_176 : decode cX8_tryMove 176 = .ok (.aload 5, 2) := by decide +kernel
theorem dX8_tryMove_178 : decode cX8_tryMove 178 = .ok (.iconst 1, 1) := by decide +kernel
theorem dX8_tryMove_179 : decode cX8_tryMove 179 = .ok (.iload 4, 2) := by decide +kernel
theorem dX8_tryMove_181 : decode cX8_tryMove 181 = .ok (.isub, 1) := by decide +kernel
theorem dX8_tryMove_182 : decode cX8_tryMove 182 = .ok (.invokevirtual 199, 3) := by decide +kernel
theorem dX8_tryMove_185 : decode cX8_tryMove 185 = .ok (.iastore, 1) := by decide +kernel
theorem dX8_tryMove_186 : decode cX8_tryMove 186 = .ok (.aload_n 0, 1) := by decide +kernel
theorem dX8_tryMove_187 : decode cX8_tryMove 187 = .ok (.getfield 27, 3) := by decide +kernel
theorem dX8_tryMove_190 : decode cX8_tryMove 190 = .ok (.iload_n 1, 1) := by decide +kernel
theorem dX8_tryMove_191 : decode cX8_tryMove 191 = .ok (.dup2, 1) := by decide +kernel
theorem dX8_tryMove_192 : decode cX8_tryMove 192 = .ok (.iaload, 1) := by decide +kernel
theorem dX8_tryMove_193 : decode cX8_tryMove 193 = .ok (.iconst 1, 1) := by decide +kernel
theorem dX8_tryMove_194 : decode cX8_tryMove 194 = .ok (.iadd, 1) := by decide +kernel
theorem dX8_tryMove_195 : decode cX8_tryMove 195 = .ok (.iastore, 1) := by decide +kernel
theorem dX8_tryMove_196 : decode cX8_tryMove 196 = .ok (.aload 5, 2) := by decide +kernel
theorem dX8_tryMove_198 : decode cX8_tryMove 198 = .ok (.iload_n 2, 1) := by decide +kernel
theorem dX8_tryMove_199 : decode cX8_tryMove 199 = .ok (.iload 6, 2) := by decide +kernel
theorem dX8_tryMove_201 : decode cX8_tryMove 201 = .ok (.iastore, 1) := by decide +kernel
theorem dX8_tryMove_202 : decode cX8_tryMove 202 = .ok (.iload 7, 2) := by decide +kernel
theorem dX8_tryMove_204 : decode cX8_tryMove 204 = .ok (.ifCond .lt 9, 3) := by decide +kernel
theorem dX8_tryMove_207 : decode cX8_tryMove 207 = .ok (.aload 5, 2) := by decide +kernel
theorem dX8_tryMove_209 : decode cX8_tryMove 209 = .ok (.iload 7, 2) := by decide +kernel
theorem dX8_tryMove_211 : decode cX8_tryMove 211 = .ok (.iload_n 3, 1) := by decide +kernel
theorem dX8_tryMove_212 : decode cX8_tryMove 212 = .ok (.iastore, 1) := by decide +kernel
theorem dX8_tryMove_213 : decode cX8_tryMove 213 = .ok (.return_, 1) := by decide +kernel
theorem dX8_findMoves_0 : decode cX8_findMoves 0 = .ok (.aload_n 0, 1) := by decide +kernel
theorem dX8_findMoves_1 : decode cX8_findMoves 1 = .ok (.iload_n 2, 1) := by decide +kernel
theorem dX8_findMoves_2 : decode cX8_findMoves 2 = .ok (.aload_n 0, 1) := by decide +kernel
theorem dX8_findMoves_3 : decode cX8_findMoves 3 = .ok (.getfield 24, 3) := by decide +kernel
theorem dX8_findMoves_6 : decode cX8_findMoves 6 = .ok (.iload_n 1, 1) := by decide +kernel
theorem dX8_findMoves_7 : decode cX8_findMoves 7 = .ok (.aaload, 1) := by decide +kernel
theorem dX8_findMoves_8 : decode cX8_findMoves 8 = .ok (.invokevirtual 201, 3) := by decide +kernel
theorem dX8_findMoves_11 : decode cX8_findMoves 11 = .ok (.iload_n 2, 1) := by decide +kernel
theorem dX8_findMoves_12 : decode cX8_findMoves 12 = .ok (.iconst 2, 1) := by decide +kernel
theorem dX8_findMoves_13 : decode cX8_findMoves 13 = .ok (.irem, 1) := by decide +kernel
theorem dX8_findMoves_14 : decode cX8_findMoves 14 = .ok (.istore_n 3, 1) := by decide +kernel
theorem dX8_findMoves_15 : decode cX8_findMoves 15 = .ok (.aload_n 0, 1) := by decide +kernel
theorem dX8_findMoves_16 : decode cX8_findMoves 16 = .ok (.getfield 27, 3) := by decide +kernel
theorem dX8_findMoves_19 : decode cX8_findMoves 19 = .ok (.iload_n 1, 1) := by decide +kernel
theorem dX8_findMoves_20 : decode cX8_findMoves 20 = .ok (.iconst 0, 1) := by decide +kernel
theorem dX8_findMoves_21 : decode cX8_findMoves 21 = .ok (.iastore, 1) := by decide +kernel
theorem dX8_findMoves_22 : decode cX8_findMoves 22 = .ok (.iconst 0, 1) := by decide +kernel
theorem dX8_findMoves_23 : decode cX8_findMoves 23 = .ok (.istore 4, 2) := by decide +kernel
theorem dX8_findMoves_25 : decode cX8_findMoves 25 = .ok (.iload 4, 2) := by decide +kernel
theorem dX8_findMoves_27 : decode cX8_findMoves 27 = .ok (.aload_n 0, 1) := by decide +kernel
theorem dX8_findMoves_28 : decode cX8_findMoves 28 = .ok (.getfield 13, 3) := by decide +kernel
theorem dX8_findMoves_31 : decode cX8_findMoves 31 = .ok (.iconst 2, 1) := by decide +kernel
theorem dX8_findMoves_32 : decode cX8_findMoves 32 = .ok (.iaload, 1) := by decide +kernel
theorem dX8_findMoves_33 : decode cX8_findMoves 33 = .ok (.if_icmp .ge 63, 3) := by decide +kernel
theorem dX8_findMoves_36 : decode cX8_findMoves 36 = .ok (.iconst 0, 1) := by decide +kernel
theorem dX8_findMoves_37 : decode cX8_findMoves 37 = .ok (.istore 5, 2) := by decide +kernel
theorem dX8_findMoves_39 : decode cX8_findMoves 39 = .ok (.iload 5, 2) := by decide +kernel
theorem dX8_findMoves_41 : decode cX8_findMoves 41 = .ok (.aload_n 0, 1) := by decide +kernel
theorem dX8_findMoves_42 : decode cX8_findMoves 42 = .ok (.invokevirtual 152, 3) := by decide +kernel
theorem dX8_findMoves_45 : decode cX8_findMoves 45 = .ok (.if_icmp .ge 45, 3) := by decide +kernel
theorem dX8_findMoves_48 : decode cX8_findMoves 48 = .ok (.aload_n 0, 1) := by decide +kernel
theorem dX8_findMoves_49 : decode cX8_findMoves 49 = .ok (.iload 4, 2) := by decide +kernel
theorem dX8_findMoves_51 : decode cX8_findMoves 51 = .ok (.iload_n 3, 1) := by decide +kernel
theorem dX8_findMoves_52 : decode cX8_findMoves 52 = .ok (.invokevirtual 177, 3) := by decide +kernel
theorem dX8_findMoves_55 : decode cX8_findMoves 55 = .ok (.ifCond .eq 35, 3) := by decide +kernel
theorem dX8_findMoves_58 : decode cX8_findMoves 58 = .ok (.aload_n 0, 1) := by decide +kernel
theorem dX8_findMoves_59 : decode cX8_findMoves 59 = .ok (.getfield 24, 3) := by decide +kernel
theorem dX8_findMoves_62 : decode cX8_findMoves 62 = .ok (.iload_n 1, 1) := by decide +kernel
theorem dX8_findMoves_63 : decode cX8_findMoves 63 = .ok (.aaload, 1) := by decide +kernel
theorem dX8_findMoves_64 : decode cX8_findMoves 64 = .ok (.iload 4, 2) := by decide +kernel
theorem dX8_findMoves_66 : decode cX8_findMoves 66 = .ok (.iaload, 1) := by decide +kernel
theorem dX8_findMoves_67 : decode cX8_findMoves 67 = .ok (.aload_n 0, 1) := by decide +kernel
theorem dX8_findMoves_68 : decode cX8_findMoves 68 = .ok (.invokevirtual 152, 3) := by decide +kernel
theorem dX8_findMoves_71 : decode cX8_findMoves 71 = .ok (.if_icmp .ge 19, 3) := by decide +kernel
theorem dX8_findMoves_74 : decode cX8_findMoves 74 = .ok (.aload_n 0, 1) := by decide +kernel
theorem dX8_findMoves_75 : decode cX8_findMoves 75 = .ok (.iload_n 1, 1) := by decide +kernel
theorem dX8_findMoves_76 : decode cX8_findMoves 76 = .ok (.iload 4, 2) := by decide +kernel
theorem dX8_findMoves_78 : decode cX8_findMoves 78 = .ok (.iload 5, 2) := by decide +kernel
theorem dX8_findMoves_80 : decode cX8_findMoves 80 = .ok (.iload_n 3, 1) := by decide +kernel
theorem dX8_findMoves_81 : decode cX8_findMoves 81 = .ok (.invokevirtual 205, 3) := by decide +kernel
theorem dX8_findMoves_84 : decode cX8_findMoves 84 = .ok (.iinc 5 1, 3) := by decide +kernel
theorem dX8_findMoves_87 : decode cX8_findMoves 87 = .ok (.goto (-48), 3) := by decide +kernel
theorem dX8_findMoves_90 : decode cX8_findMoves 90 = .ok (.iinc 4 1, 3) := by decide +kernel
theorem dX8_findMoves_93 : decode cX8_findMoves 93 = .ok (.goto (-68), 3) := by decide +kernel
theorem dX8_findMoves_96 : decode cX8_findMoves 96 = .ok (.return_, 1) := by decide +kernel
theorem dX8_isEnd_0 : decode cX8_isEnd 0 = .ok (.aload_n 0, 1) := by decide +kernel
theorem dX8_isEnd_1 : decode cX8_isEnd 1 = .ok (.iconst 0, 1) := by decide +kernel
theorem dX8_isEnd_2 : decode cX8_isEnd 2 = .ok (.iload_n 1, 1) := by decide +kernel
theorem dX8_isEnd_3 : decode cX8_isEnd 3 = .ok (.invokevirtual 209, 3) := by decide +kernel
theorem dX8_isEnd_6 : decode cX8_isEnd 6 = .ok (.aload_n 0, 1) := by decide +kernel
theorem dX8_isEnd_7 : decode cX8_isEnd 7 = .ok (.getfield 27, 3) := by decide +kernel
theorem dX8_isEnd_10 : decode cX8_isEnd 10 = .ok (.iconst 0, 1) := by decide +kernel
theorem dX8_isEnd_11 : decode cX8_isEnd 11 = .ok (.iaload, 1) := by decide +kernel
theorem dX8_isEnd_12 : decode cX8_isEnd 12 = .ok (.ifCond .ne 7, 3) := by decide +kernel
theorem dX8_isEnd_15 : decode cX8_isEnd 15 = .ok (.iconst 1, 1) := by decide +kernel
theorem dX8_isEnd_16 : decode cX8_isEnd 16 = .ok (.goto 4, 3) := by decide +kernel
theorem dX8_isEnd_19 : decode cX8_isEnd 19 = .ok (.iconst 0, 1) := by decide +kernel
theorem dX8_isEnd_20 : decode cX8_isEnd 20 = .ok (.ireturn, 1) := by decide +kernel
theorem dX8_endValue_0 : decode cX8_endValue 0 = .ok (.aload_n 0, 1) := by decide +kernel
theorem dX8_endValue_1 : decode cX8_endValue 1 = .ok (.aload_n 0, 1) := by decide +kernel
theorem dX8_endValue_2 : decode cX8_endValue 2 = .ok (.getfield 24, 3) := by decide +kernel
theorem dX8_endValue_5 : decode cX8_endValue 5 = .ok (.iload_n 2, 1) := by decide +kernel
theorem dX8_endValue_6 : decode cX8_endValue 6 = .ok (.aaload, 1) := by decide +kernel
theorem dX8_endValue_7 : decode cX8_endValue 7 = .ok (.iload_n 1, 1) := by decide +kernel
theorem dX8_endValue_8 : decode cX8_endValue 8 = .ok (.iconst 2, 1) := by decide +kernel
theorem dX8_endValue_9 : decode cX8_endValue 9 = .ok (.irem, 1) := by decide +kernel
theorem dX8_endValue_10 : decode cX8_endValue 10 = .ok (.invokevirtual 191, 3) := by decide +kernel
theorem dX8_endValue_13 : decode cX8_endValue 13 = .ok (.ifCond .eq 7, 3) := by decide +kernel
theorem dX8_endValue_16 : decode cX8_endValue 16 = .ok (.iconst (-1), 1) := by decide +kernel
theorem dX8_endValue_17 : decode cX8_endValue 17 = .ok (.goto 9, 3) := by decide +kernel
theorem dX8_endValue_20 : decode cX8_endValue 20 = .ok (.aload_n 0, 1) := by decide +kernel
theorem dX8_endValue_21 : decode cX8_endValue 21 = .ok (.getfield 13, 3) := by decide +kernel
theorem dX8_endValue_24 : decode cX8_endValue 24 = .ok (.iconst 5, 1) := by decide +kernel
theorem dX8_endValue_25 : decode cX8_endValue 25 = .ok (.iaload, 1) := by decide +kernel
theorem dX8_endValue_26 : decode cX8_endValue 26 = .ok (.ireturn, 1) := by decide +kernel
theorem dX8_build_0 : decode cX8_build 0 = .ok (.aload_n 0, 1) := by decide +kernel
theorem dX8_build_1 : decode cX8_build 1 = .ok (.invokevirtual 152, 3) := by decide +kernel
theorem dX8_build_4 : decode cX8_build 4 = .ok (.iconst 1, 1) := by decide +kernel
theorem dX8_build_5 : decode cX8_build 5 = .ok (.iadd, 1) := by decide +kernel
theorem dX8_build_6 : decode cX8_build 6 = .ok (.istore_n 1, 1) := by decide +kernel
theorem dX8_build_7 : decode cX8_build 7 = .ok (.aload_n 0, 1) := by decide +kernel
theorem dX8_build_8 : decode cX8_build 8 = .ok (.iload_n 1, 1) := by decide +kernel
theorem dX8_build_9 : decode cX8_build 9 = .ok (.iload_n 1, 1) := by decide +kernel
theorem dX8_build_10 : decode cX8_build 10 = .ok (.imul, 1) := by decide +kernel
theorem dX8_build_11 : decode cX8_build 11 = .ok (.iload_n 1, 1) := by decide +kernel
theorem dX8_build_12 : decode cX8_build 12 = .ok (.imul, 1) := by decide +kernel
theorem dX8_build_13 : decode cX8_build 13 = .ok (.iconst 2, 1) := by decide +kernel
theorem dX8_build_14 : decode cX8_build 14 = .ok (.imul, 1) := by decide +kernel
theorem dX8_build_15 : decode cX8_build 15 = .ok (.putfield 213, 3) := by decide +kernel
theorem dX8_build_18 : decode cX8_build 18 = .ok (.iconst 0, 1) := by decide +kernel
theorem dX8_build_19 : decode cX8_build 19 = .ok (.istore_n 2, 1) := by decide +kernel
theorem dX8_build_20 : decode cX8_build 20 = .ok (.iload_n 2, 1) := by decide +kernel
theorem dX8_build_21 : decode cX8_build 21 = .ok (.aload_n 0, 1) := by decide +kernel
theorem dX8_build_22 : decode cX8_build 22 = .ok (.getfield 213, 3) := by decide +kernel
theorem dX8_build_25 : decode cX8_build 25 = .ok (.if_icmp .ge 76, 3) := by decide +kernel
theorem dX8_build_28 : decode cX8_build 28 = .ok (.aload_n 0, 1) := by decide +kernel
theorem dX8_build_29 : decode cX8_build 29 = .ok (.iload_n 2, 1) := by decide +kernel
theorem dX8_build_30 : decode cX8_build 30 = .ok (.aload_n 0, 1) := by decide +kernel
theorem dX8_build_31 : decode cX8_build 31 = .ok (.getfield 24, 3) := by decide +kernel
theorem dX8_build_34 : decode cX8_build 34 = .ok (.iconst 0, 1) := by decide +kernel
theorem dX8_build_35 : decode cX8_build 35 = .ok (.aaload, 1) := by decide +kernel
theorem dX8_build_36 : decode cX8_build 36 = .ok (.invokevirtual 201, 3) := by decide +kernel
theorem dX8_build_39 : decode cX8_build 39 = .ok (.aload_n 0, 1) := by decide +kernel
theorem dX8_build_40 : decode cX8_build 40 = .ok (.getfield 42, 3) := by decide +kernel
theorem dX8_build_43 : decode cX8_build 43 = .ok (.iload_n 2, 1) := by decide +kernel
theorem dX8_build_44 : decode cX8_build 44 = .ok (.aload_n 0, 1) := by decide +kernel
theorem dX8_build_45 : decode cX8_build 45 = .ok (.aload_n 0, 1) := by decide +kernel
theorem dX8_build_46 : decode cX8_build 46 = .ok (.getfield 24, 3) := by decide +kernel
theorem dX8_build_49 : decode cX8_build 49 = .ok (.iconst 0, 1) := by decide +kernel
theorem dX8_build_50 : decode cX8_build 50 = .ok (.aaload, 1) := by decide +kernel
theorem dX8_build_51 : decode cX8_build 51 = .ok (.iload_n 2, 1) := by decide +kernel
theorem dX8_build_52 : decode cX8_build 52 = .ok (.iconst 2, 1) := by decide +kernel
theorem dX8_build_53 : decode cX8_build 53 = .ok (.irem, 1) := by decide +kernel
theorem dX8_build_54 : decode cX8_build 54 = .ok (.invokevirtual 216, 3) := by decide +kernel
theorem dX8_build_57 : decode cX8_build 57 = .ok (.bastore, 1) := by decide +kernel
theorem dX8_build_58 : decode cX8_build 58 = .ok (.aload_n 0, 1) := by decide +kernel
theorem dX8_build_59 : decode cX8_build 59 = .ok (.getfield 46, 3) := by decide +kernel
theorem dX8_build_62 : decode cX8_build 62 = .ok (.iload_n 2, 1) := by decide +kernel
theorem dX8_build_63 : decode cX8_build 63 = .ok (.iconst 0, 1) := by decide +kernel
theorem dX8_build_64 : decode cX8_build 64 = .ok (.bastore, 1) := by decide +kernel
theorem dX8_build_65 : decode cX8_build 65 = .ok (.aload_n 0, 1) := by decide +kernel
theorem dX8_build_66 : decode cX8_build 66 = .ok (.getfield 49, 3) := by decide +kernel
theorem dX8_build_69 : decode cX8_build 69 = .ok (.iload_n 2, 1) := by decide +kernel
theorem dX8_build_70 : decode cX8_build 70 = .ok (.iconst 0, 1) := by decide +kernel
theorem dX8_build_71 : decode cX8_build 71 = .ok (.bastore, 1) := by decide +kernel
theorem dX8_build_72 : decode cX8_build 72 = .ok (.aload_n 0, 1) := by decide +kernel
theorem dX8_build_73 : decode cX8_build 73 = .ok (.getfield 52, 3) := by decide +kernel
theorem dX8_build_76 : decode cX8_build 76 = .ok (.iload_n 2, 1) := by decide +kernel
theorem dX8_build_77 : decode cX8_build 77 = .ok (.iconst 0, 1) := by decide +kernel
theorem dX8_build_78 : decode cX8_build 78 = .ok (.iastore, 1) := by decide +kernel
theorem dX8_build_79 : decode cX8_build 79 = .ok (.aload_n 0, 1) := by decide +kernel
theorem dX8_build_80 : decode cX8_build 80 = .ok (.getfield 55, 3) := by decide +kernel
theorem dX8_build_83 : decode cX8_build 83 = .ok (.iload_n 2, 1) := by decide +kernel
theorem dX8_build_84 : decode cX8_build 84 = .ok (.bipush (-5), 2) := by decide +kernel
theorem dX8_build_86 : decode cX8_build 86 = .ok (.iastore, 1) := by decide +kernel
theorem dX8_build_87 : decode cX8_build 87 = .ok (.aload_n 0, 1) := by decide +kernel
theorem dX8_build_88 : decode cX8_build 88 = .ok (.getfield 58, 3) := by decide +kernel
theorem dX8_build_91 : decode cX8_build 91 = .ok (.iload_n 2, 1) := by decide +kernel
theorem dX8_build_92 : decode cX8_build 92 = .ok (.bipush (-5), 2) := by decide +kernel
theorem dX8_build_94 : decode cX8_build 94 = .ok (.iastore, 1) := by decide +kernel
theorem dX8_build_95 : decode cX8_build 95 = .ok (.iinc 2 1, 3) := by decide +kernel
theorem dX8_build_98 : decode cX8_build 98 = .ok (.goto (-78), 3) := by decide +kernel
theorem dX8_build_101 : decode cX8_build 101 = .ok (.iconst 0, 1) := by decide +kernel
theorem dX8_build_102 : decode cX8_build 102 = .ok (.istore_n 2, 1) := by decide +kernel
theorem dX8_build_103 : decode cX8_build 103 = .ok (.iload_n 2, 1) := by decide +kernel
theorem dX8_build_104 : decode cX8_build 104 = .ok (.aload_n 0, 1) := by decide +kernel
theorem dX8_build_105 : decode cX8_build 105 = .ok (.getfield 213, 3) := by decide +kernel
theorem dX8_build_108 : decode cX8_build 108 = .ok (.if_icmp .ge 85, 3) := by decide +kernel
theorem dX8_build_111 : decode cX8_build 111 = .ok (.aload_n 0, 1) := by decide +kernel
theorem dX8_build_112 : decode cX8_build 112 = .ok (.getfield 42, 3) := by decide +kernel
theorem dX8_build_115 : decode cX8_build 115 = .ok (.iload_n 2, 1) := by decide +kernel
theorem dX8_build_116 : decode cX8_build 116 = .ok (.baload, 1) := by decide +kernel
theorem dX8_build_117 : decode cX8_build 117 = .ok (.ifCond .eq 70, 3) := by decide +kernel
theorem dX8_build_120 : decode cX8_build 120 = .ok (.aload_n 0, 1) := by decide +kernel
theorem dX8_build_121 : decode cX8_build 121 = .ok (.iload_n 2, 1) := by decide +kernel
theorem dX8_build_122 : decode cX8_build 122 = .ok (.invokevirtual 219, 3) := by decide +kernel
theorem dX8_build_125 : decode cX8_build 125 = .ok (.ifCond .eq 62, 3) := by decide +kernel
theorem dX8_build_128 : decode cX8_build 128 = .ok (.aload_n 0, 1) := by decide +kernel
theorem dX8_build_129 : decode cX8_build 129 = .ok (.getfield 52, 3) := by decide +kernel
theorem dX8_build_132 : decode cX8_build 132 = .ok (.iload_n 2, 1) := by decide +kernel
theorem dX8_build_133 : decode cX8_build 133 = .ok (.aload_n 0, 1) := by decide +kernel
theorem dX8_build_134 : decode cX8_build 134 = .ok (.iload_n 2, 1) := by decide +kernel
theorem dX8_build_135 : decode cX8_build 135 = .ok (.iconst 0, 1) := by decide +kernel
theorem dX8_build_136 : decode cX8_build 136 = .ok (.invokevirtual 222, 3) := by decide +kernel
theorem dX8_build_139 : decode cX8_build 139 = .ok (.iastore, 1) := by decide +kernel
theorem dX8_build_140 : decode cX8_build 140 = .ok (.aload_n 0, 1) := by decide +kernel
theorem dX8_build_141 : decode cX8_build 141 = .ok (.getfield 46, 3) := by decide +kernel
theorem dX8_build_144 : decode cX8_build 144 = .ok (.iload_n 2, 1) := by decide +kernel
theorem dX8_build_145 : decode cX8_build 145 = .ok (.iconst 1, 1) := by decide +kernel
theorem dX8_build_146 : decode cX8_build 146 = .ok (.bastore, 1) := by decide +kernel
theorem dX8_build_147 : decode cX8_build 147 = .ok (.aload_n 0, 1) := by decide +kernel
theorem dX8_build_148 : decode cX8_build 148 = .ok (.getfield 49, 3) := by decide +kernel
theorem dX8_build_151 : decode cX8_build 151 = .ok (.iload_n 2, 1) := by decide +kernel
theorem dX8_build_152 : decode cX8_build 152 = .ok (.iconst 1, 1) := by decide +kernel
theorem dX8_build_153 : decode cX8_build 153 = .ok (.bastore, 1) := by decide +kernel
theorem dX8_build_154 : decode cX8_build 154 = .ok (.aload_n 0, 1) := by decide +kernel
theorem dX8_build_155 : decode cX8_build 155 = .ok (.getfield 55, 3) := by decide +kernel
theorem dX8_build_158 : decode cX8_build 158 = .ok (.iload_n 2, 1) := by decide +kernel
theorem dX8_build_159 : decode cX8_build 159 = .ok (.aload_n 0, 1) := by decide +kernel
theorem dX8_build_160 : decode cX8_build 160 = .ok (.getfield 52, 3) := by decide +kernel
theorem dX8_build_163 : decode cX8_build 163 = .ok (.iload_n 2, 1) := by decide +kernel
theorem dX8_build_164 : decode cX8_build 164 = .ok (.iaload, 1) := by decide +kernel
theorem dX8_build_165 : decode cX8_build 165 = .ok (.ifCond .ne 8, 3) := by decide +kernel
theorem dX8_build_168 : decode cX8_build 168 = .ok (.bipush (-5), 2) := by decide +kernel
theorem dX8_build_170 : decode cX8_build 170 = .ok (.goto 4, 3) := by decide +kernel
theorem dX8_build_173 : decode cX8_build 173 = .ok (.iconst 0, 1) := by decide +kernel
theorem dX8_build_174 : decode cX8_build 174 = .ok (.iastore, 1) := by decide +kernel
theorem dX8_build_175 : decode cX8_build 175 = .ok (.aload_n 0, 1) := by decide +kernel
theorem dX8_build_176 : decode cX8_build 176 = .ok (.getfield 58, 3) := by decide +kernel
theorem dX8_build_179 : decode cX8_build 179 = .ok (.iload_n 2, 1) := by decide +kernel
theorem dX8_build_180 : decode cX8_build 180 = .ok (.aload_n 0, 1) := by decide +kernel
theorem dX8_build_181 : decode cX8_build 181 = .ok (.getfield 55, 3) := by decide +kernel
theorem dX8_build_184 : decode cX8_build 184 = .ok (.iload_n 2, 1) := by decide +kernel
theorem dX8_build_185 : decode cX8_build 185 = .ok (.iaload, 1) := by decide +kernel
theorem dX8_build_186 : decode cX8_build 186 = .ok (.iastore, 1) := by decide +kernel
theorem dX8_build_187 : decode cX8_build 187 = .ok (.iinc 2 1, 3) := by decide +kernel
theorem dX8_build_190 : decode cX8_build 190 = .ok (.goto (-87), 3) := by decide +kernel
theorem dX8_build_193 : decode cX8_build 193 = .ok (.iconst 1, 1) := by decide +kernel
theorem dX8_build_194 : decode cX8_build 194 = .ok (.istore_n 2, 1) := by decide +kernel
theorem dX8_build_195 : decode cX8_build 195 = .ok (.iconst 1, 1) := by decide +kernel
theorem dX8_build_196 : decode cX8_build 196 = .ok (.istore_n 3, 1) := by decide +kernel
theorem dX8_build_197 : decode cX8_build 197 = .ok (.iload_n 2, 1) := by decide +kernel
theorem dX8_build_198 : decode cX8_build 198 = .ok (.ifCond .eq 15, 3) := by decide +kernel
theorem dX8_build_201 : decode cX8_build 201 = .ok (.aload_n 0, 1) := by decide +kernel
theorem dX8_build_202 : decode cX8_build 202 = .ok (.iload_n 3, 1) := by decide +kernel
theorem dX8_build_203 : decode cX8_build 203 = .ok (.invokevirtual 225, 3) := by decide +kernel
theorem dX8_build_206 : decode cX8_build 206 = .ok (.istore_n 2, 1) := by decide +kernel
theorem dX8_build_207 : decode cX8_build 207 = .ok (.iinc 3 1, 3) := by decide +kernel
theorem dX8_build_210 : decode cX8_build 210 = .ok (.goto (-13), 3) := by decide +kernel
theorem dX8_build_213 : decode cX8_build 213 = .ok (.iconst 1, 1) := by decide +kernel
theorem dX8_build_214 : decode cX8_build 214 = .ok (.istore_n 2, 1) := by decide +kernel
theorem dX8_build_215 : decode cX8_build 215 = .ok (.iconst 1, 1) := by decide +kernel
theorem dX8_build_216 : decode cX8_build 216 = .ok (.istore_n 3, 1) := by decide +kernel
theorem dX8_build_217 : decode cX8_build 217 = .ok (.iload_n 2, 1) := by decide +kernel
theorem dX8_build_218 : decode cX8_build 218 = .ok (.ifCond .eq 15, 3) := by decide +kernel
theorem dX8_build_221 : decode cX8_build 221 = .ok (.aload_n 0, 1) := by decide +kernel
theorem dX8_build_222 : decode cX8_build 222 = .ok (.iload_n 3, 1) := by decide +kernel
theorem dX8_build_223 : decode cX8_build 223 = .ok (.invokevirtual 228, 3) := by decide +kernel
theorem dX8_build_226 : decode cX8_build 226 = .ok (.istore_n 2, 1) := by decide +kernel
theorem dX8_build_227 : decode cX8_build 227 = .ok (.iinc 3 1, 3) := by decide +kernel
theorem dX8_build_230 : decode cX8_build 230 = .ok (.goto (-13), 3) := by decide +kernel
theorem dX8_build_233 : decode cX8_build 233 = .ok (.return_, 1) := by decide +kernel
theorem dX8_decide_0 : decode cX8_decide 0 = .ok (.iconst 0, 1) := by decide +kernel
theorem dX8_decide_1 : decode cX8_decide 1 = .ok (.istore_n 2, 1) := by decide +kernel
theorem dX8_decide_2 : decode cX8_decide 2 = .ok (.iconst 0, 1) := by decide +kernel
theorem dX8_decide_3 : decode cX8_decide 3 = .ok (.istore_n 3, 1) := by decide +kernel
theorem dX8_decide_4 : decode cX8_decide 4 = .ok (.iload_n 3, 1) := by decide +kernel
theorem dX8_decide_5 : decode cX8_decide 5 = .ok (.aload_n 0, 1) := by decide +kernel
theorem dX8_decide_6 : decode cX8_decide 6 = .ok (.getfield 213, 3) := by decide +kernel
theorem dX8_decide_9 : decode cX8_decide 9 = .ok (.if_icmp .ge 202, 3) := by decide +kernel
theorem dX8_decide_12 : decode cX8_decide 12 = .ok (.aload_n 0, 1) := by decide +kernel
theorem dX8_decide_13 : decode cX8_decide 13 = .ok (.getfield 42, 3) := by decide +kernel
theorem dX8_decide_16 : decode cX8_decide 16 = .ok (.iload_n 3, 1) := by decide +kernel
theorem dX8_decide_17 : decode cX8_decide 17 = .ok (.baload, 1) := by decide +kernel
theorem dX8_decide_18 : decode cX8_decide 18 = .ok (.ifCond .eq 187, 3) := by decide +kernel
theorem dX8_decide_21 : decode cX8_decide 21 = .ok (.aload_n 0, 1) := by decide +kernel
theorem dX8_decide_22 : decode cX8_decide 22 = .ok (.getfield 46, 3) := by decide +kernel
theorem dX8_decide_25 : decode cX8_decide 25 = .ok (.iload_n 3, 1) := by decide +kernel
theorem dX8_decide_26 : decode cX8_decide 26 = .ok (.baload, 1) := by decide +kernel
theorem dX8_decide_27 : decode cX8_decide 27 = .ok (.ifCond .ne 178, 3) := by decide +kernel
theorem dX8_decide_30 : decode cX8_decide 30 = .ok (.aload_n 0, 1) := by decide +kernel
theorem dX8_decide_31 : decode cX8_decide 31 = .ok (.iconst 0, 1) := by decide +kernel
theorem dX8_decide_32 : decode cX8_decide 32 = .ok (.iload_n 3, 1) := by decide +kernel
theorem dX8_decide_33 : decode cX8_decide 33 = .ok (.invokevirtual 209, 3) := by decide +kernel
theorem dX8_decide_36 : decode cX8_decide 36 = .ok (.iconst 0, 1) := by decide +kernel
theorem dX8_decide_37 : decode cX8_decide 37 = .ok (.istore 4, 2) := by decide +kernel
theorem dX8_decide_39 : decode cX8_decide 39 = .ok (.iconst 1, 1) := by decide +kernel
theorem dX8_decide_40 : decode cX8_decide 40 = .ok (.istore 5, 2) := by decide +kernel
theorem dX8_decide_42 : decode cX8_decide 42 = .ok (.iconst 0, 1) := by decide +kernel
theorem dX8_decide_43 : decode cX8_decide 43 = .ok (.istore 6, 2) := by decide +kernel
theorem dX8_decide_45 : decode cX8_decide 45 = .ok (.iload 6, 2) := by decide +kernel
theorem dX8_decide_47 : decode cX8_decide 47 = .ok (.aload_n 0, 1) := by decide +kernel
theorem dX8_decide_48 : decode cX8_decide 48 = .ok (.getfield 27, 3) := by decide +kernel
theorem dX8_decide_51 : decode cX8_decide 51 = .ok (.iconst 0, 1) := by decide +kernel
theorem dX8_decide_52 : decode cX8_decide 52 = .ok (.iaload, 1) := by decide +kernel
theorem dX8_decide_53 : decode cX8_decide 53 = .ok (.if_icmp .ge 110, 3) := by decide +kernel
theorem dX8_decide_56 : decode cX8_decide 56 = .ok (.aload_n 0, 1) := by decide +kernel
theorem dX8_decide_57 : decode cX8_decide 57 = .ok (.getfield 39, 3) := by decide +kernel
theorem dX8_decide_60 : decode cX8_decide 60 = .ok (.iconst 0, 1) := by decide +kernel
theorem dX8_decide_61 : decode cX8_decide 61 = .ok (.aaload, 1) := by decide +kernel
theorem dX8_decide_62 : decode cX8_decide 62 = .ok (.iload 6, 2) := by decide +kernel
theorem dX8_decide_64 : decode cX8_decide 64 = .ok (.iaload, 1) := by decide +kernel
theorem dX8_decide_65 : decode cX8_decide 65 = .ok (.istore 7, 2) := by decide +kernel
theorem dX8_decide_67 : decode cX8_decide 67 = .ok (.aload_n 0, 1) := by decide +kernel
theorem dX8_decide_68 : decode cX8_decide 68 = .ok (.getfield 46, 3) := by decide +kernel
theorem dX8_decide_71 : decode cX8_decide 71 = .ok (.iload 7, 2) := by decide +kernel
theorem dX8_decide_73 : decode cX8_decide 73 = .ok (.baload, 1) := by decide +kernel
theorem dX8_decide_74 : decode cX8_decide 74 = .ok (.ifCond .eq 28, 3) := by decide +kernel
theorem dX8_decide_77 : decode cX8_decide 77 = .ok (.aload_n 0, 1) := by decide +kernel
theorem dX8_decide_78 : decode cX8_decide 78 = .ok (.getfield 55, 3) := by decide +kernel
theorem dX8_decide_81 : decode cX8_decide 81 = .ok (.iload 7, 2) := by decide +kernel
theorem dX8_decide_83 : decode cX8_decide 83 = .ok (.iaload, 1) := by decide +kernel
theorem dX8_decide_84 : decode cX8_decide 84 = .ok (.ifCond .lt 18, 3) := by decide +kernel
theorem dX8_decide_87 : decode cX8_decide 87 = .ok (.aload_n 0, 1) := by decide +kernel
theorem dX8_decide_88 : decode cX8_decide 88 = .ok (.getfield 55, 3) := by decide +kernel
theorem dX8_decide_91 : decode cX8_decide 91 = .ok (.iload 7, 2) := by decide +kernel
theorem dX8_decide_93 : decode cX8_decide 93 = .ok (.iaload, 1) := by decide +kernel
theorem dX8_decide_94 : decode cX8_decide 94 = .ok (.iload_n 1, 1) := by decide +kernel
theorem dX8_decide_95 : decode cX8_decide 95 = .ok (.if_icmp .ge 7, 3) := by decide +kernel
theorem dX8_decide_98 : decode cX8_decide 98 = .ok (.iconst 1, 1) := by decide +kernel
theorem dX8_decide_99 : decode cX8_decide 99 = .ok (.goto 4, 3) := by decide +kernel
theorem dX8_decide_102 : decode cX8_decide 102 = .ok (.iconst 0, 1) := by decide +kernel
theorem dX8_decide_103 : decode cX8_decide 103 = .ok (.istore 8, 2) := by decide +kernel
theorem dX8_decide_105 : decode cX8_decide 105 = .ok (.iload 4, 2) := by decide +kernel
theorem dX8_decide_107 : decode cX8_decide 107 = .ok (.iload 8, 2) := by decide +kernel
theorem dX8_decide_109 : decode cX8_decide 109 = .ok (.ifCond .eq 18, 3) := by decide +kernel
theorem dX8_decide_112 : decode cX8_decide 112 = .ok (.aload_n 0, 1) := by decide +kernel
theorem dX8_decide_113 : decode cX8_decide 113 = .ok (.getfield 52, 3) := by decide +kernel
theorem dX8_decide_116 : decode cX8_decide 116 = .ok (.iload 7, 2) := by decide +kernel
theorem dX8_decide_118 : decode cX8_decide 118 = .ok (.iaload, 1) := by decide +kernel
theorem dX8_decide_119 : decode cX8_decide 119 = .ok (.iconst (-1), 1) := by decide +kernel
theorem dX8_decide_120 : decode cX8_decide 120 = .ok (.if_icmp .ne 7, 3) := by decide +kernel
theorem dX8_decide_123 : decode cX8_decide 123 = .ok (.iconst 1, 1) := by decide +kernel
theorem dX8_decide_124 : decode cX8_decide 124 = .ok (.goto 4, 3) := by decide +kernel
theorem dX8_decide_127 : decode cX8_decide 127 = .ok (.iconst 0, 1) := by decide +kernel
theorem dX8_decide_128 : decode cX8_decide 128 = .ok (.ior, 1) := by decide +kernel
theorem dX8_decide_129 : decode cX8_decide 129 = .ok (.istore 4, 2) := by decide +kernel
theorem dX8_decide_131 : decode cX8_decide 131 = .ok (.iload 5, 2) := by decide +kernel
theorem dX8_decide_133 : decode cX8_decide 133 = .ok (.iload 8, 2) := by decide +kernel
theorem dX8_decide_135 : decode cX8_decide 135 = .ok (.ifCond .eq 18, 3) := by decide +kernel
theorem dX8_decide_138 : decode cX8_decide 138 = .ok (.aload_n 0, 1) := by decide +kernel
theorem dX8_decide_139 : decode cX8_decide 139 = .ok (.getfield 52, 3) := by decide +kernel
theorem dX8_decide_142 : decode cX8_decide 142 = .ok (.iload 7, 2) := by decide +kernel
theorem dX8_decide_144 : decode cX8_decide 144 = .ok (.iaload, 1) := by decide +kernel
theorem dX8_decide_145 : decode cX8_decide 145 = .ok (.iconst 1, 1) := by decide +kernel
theorem dX8_decide_146 : decode cX8_decide 146 = .ok (.if_icmp .ne 7, 3) := by decide +kernel
theorem dX8_decide_149 : decode cX8_decide 149 = .ok (.iconst 1, 1) := by decide +kernel
theorem dX8_decide_150 : decode cX8_decide 150 = .ok (.goto 4, 3) := by decide +kernel
theorem dX8_decide_153 : decode cX8_decide 153 = .ok (.iconst 0, 1) := by decide +kernel
theorem dX8_decide_154 : decode cX8_decide 154 = .ok (.iand, 1) := by decide +kernel
theorem dX8_decide_155 : decode cX8_decide 155 = .ok (.istore 5, 2) := by decide +kernel
theorem dX8_decide_157 : decode cX8_decide 157 = .ok (.iinc 6 1, 3) := by decide +kernel
theorem dX8_decide_160 : decode cX8_decide 160 = .ok (.goto (-115), 3) := by decide +kernel
theorem dX8_decide_163 : decode cX8_decide 163 = .ok (.iload 4, 2) := by decide +kernel
theorem dX8_decide_165 : decode cX8_decide 165 = .ok (.ifCond .ne 8, 3) := by decide +kernel
theorem dX8_decide_168 : decode cX8_decide 168 = .ok (.iload 5, 2) := by decide +kernel
theorem dX8_decide_170 : decode cX8_decide 170 = .ok (.ifCond .eq 35, 3) := by decide +kernel
theorem dX8_decide_173 : decode cX8_decide 173 = .ok (.aload_n 0, 1) := by decide +kernel
theorem dX8_decide_174 : decode cX8_decide 174 = .ok (.getfield 52, 3) := by decide +kernel
theorem dX8_decide_177 : decode cX8_decide 177 = .ok (.iload_n 3, 1) := by decide +kernel
theorem dX8_decide_178 : decode cX8_decide 178 = .ok (.iload 4, 2) := by decide +kernel
theorem dX8_decide_180 : decode cX8_decide 180 = .ok (.ifCond .eq 7, 3) := by decide +kernel
theorem dX8_decide_183 : decode cX8_decide 183 = .ok (.iconst 1, 1) := by decide +kernel
theorem dX8_decide_184 : decode cX8_decide 184 = .ok (.goto 4, 3) := by decide +kernel
theorem dX8_decide_187 : decode cX8_decide 187 = .ok (.iconst (-1), 1) := by decide +kernel
theorem dX8_decide_188 : decode cX8_decide 188 = .ok (.iastore, 1) := by decide +kernel
theorem dX8_decide_189 : decode cX8_decide 189 = .ok (.aload_n 0, 1) := by decide +kernel
theorem dX8_decide_190 : decode cX8_decide 190 = .ok (.getfield 55, 3) := by decide +kernel
theorem dX8_decide_193 : decode cX8_decide 193 = .ok (.iload_n 3, 1) := by decide +kernel
theorem dX8_decide_194 : decode cX8_decide 194 = .ok (.iload_n 1, 1) := by decide +kernel
theorem dX8_decide_195 : decode cX8_decide 195 = .ok (.iastore, 1) := by decide +kernel
theorem dX8_decide_196 : decode cX8_decide 196 = .ok (.aload_n 0, 1) := by decide +kernel
theorem dX8_decide_197 : decode cX8_decide 197 = .ok (.getfield 46, 3) := by decide +kernel
theorem dX8_decide_200 : decode cX8_decide 200 = .ok (.iload_n 3, 1) := by decide +kernel
theorem dX8_decide_201 : decode cX8_decide 201 = .ok (.iconst 1, 1) := by decide +kernel
theorem dX8_decide_202 : decode cX8_decide 202 = .ok (.bastore, 1) := by decide +kernel
theorem dX8_decide_203 : decode cX8_decide 203 = .ok (.iconst 1, 1) := by decide +kernel
theorem dX8_decide_204 : decode cX8_decide 204 = .ok (.istore_n 2, 1) := by decide +kernel
theorem dX8_decide_205 : decode cX8_decide 205 = .ok (.iinc 3 1, 3) := by decide +kernel
theorem dX8_decide_208 : decode cX8_decide 208 = .ok (.goto (-204), 3) := by decide +kernel
theorem dX8_decide_211 : decode cX8_decide 211 = .ok (.iload_n 2, 1) := by decide +kernel
theorem dX8_decide_212 : decode cX8_decide 212 = .ok (.ireturn, 1) := by decide +kernel
theorem dX8_convert_0 : decode cX8_convert 0 = .ok (.iconst 0, 1) := by decide +kernel
theorem dX8_convert_1 : decode cX8_convert 1 = .ok (.istore_n 2, 1) := by decide +kernel
theorem dX8_convert_2 : decode cX8_convert 2 = .ok (.iconst 0, 1) := by decide +kernel
theorem dX8_convert_3 : decode cX8_convert 3 = .ok (.istore_n 3, 1) := by decide +kernel
theorem dX8_convert_4 : decode cX8_convert 4 = .ok (.iload_n 3, 1) := by decide +kernel
theorem dX8_convert_5 : decode cX8_convert 5 = .ok (.aload_n 0, 1) := by decide +kernel
theorem dX8_convert_6 : decode cX8_convert 6 = .ok (.getfield 213, 3) := by decide +kernel
theorem dX8_convert_9 : decode cX8_convert 9 = .ok (.if_icmp .ge 213, 3) := by decide +kernel
theorem dX8_convert_12 : decode cX8_convert 12 = .ok (.aload_n 0, 1) := by decide +kernel
theorem dX8_convert_13 : decode cX8_convert 13 = .ok (.getfield 42, 3) := by decide +kernel
theorem dX8_convert_16 : decode cX8_convert 16 = .ok (.iload_n 3, 1) := by decide +kernel
theorem dX8_convert_17 : decode cX8_convert 17 = .ok (.baload, 1) := by decide +kernel
theorem dX8_convert_18 : decode cX8_convert 18 = .ok (.ifCond .eq 198, 3) := by decide +kernel
theorem dX8_convert_21 : decode cX8_convert 21 = .ok (.aload_n 0, 1) := by decide +kernel
theorem dX8_convert_22 : decode cX8_convert 22 = .ok (.getfield 46, 3) := by decide +kernel
theorem dX8_convert_25 : decode cX8_convert 25 = .ok (.iload_n 3, 1) := by decide +kernel
theorem dX8_convert_26 : decode cX8_convert 26 = .ok (.baload, 1) := by decide +kernel
theorem dX8_convert_27 : decode cX8_convert 27 = .ok (.ifCond .eq 189, 3) := by decide +kernel
theorem dX8_convert_30 : decode cX8_convert 30 = .ok (.aload_n 0, 1) := by decide +kernel
theorem dX8_convert_31 : decode cX8_convert 31 = .ok (.getfield 49, 3) := by decide +kernel
theorem dX8_convert_34 : decode cX8_convert 34 = .ok (.iload_n 3, 1) := by decide +kernel
theorem dX8_convert_35 : decode cX8_convert 35 = .ok (.baload, 1) := by decide +kernel
theorem dX8_convert_36 : decode cX8_convert 36 = .ok (.ifCond .ne 180, 3) := by decide +kernel
theorem dX8_convert_39 : decode cX8_convert 39 = .ok (.aload_n 0, 1) := by decide +kernel
theorem dX8_convert_40 : decode cX8_convert 40 = .ok (.iconst 0, 1) := by decide +kernel
theorem dX8_convert_41 : decode cX8_convert 41 = .ok (.iload_n 3, 1) := by decide +kernel
theorem dX8_convert_42 : decode cX8_convert 42 = .ok (.invokevirtual 209, 3) := by decide +kernel
theorem dX8_convert_45 : decode cX8_convert 45 = .ok (.iconst 0, 1) := by decide +kernel
theorem dX8_convert_46 : decode cX8_convert 46 = .ok (.istore 4, 2) := by decide +kernel
theorem dX8_convert_48 : decode cX8_convert 48 = .ok (.iconst 1, 1) := by decide +kernel
theorem dX8_convert_49 : decode cX8_convert 49 = .ok (.istore 5, 2) := by decide +kernel
theorem dX8_convert_51 : decode cX8_convert 51 = .ok (.iconst 0, 1) := by decide +kernel
theorem dX8_convert_52 : decode cX8_convert 52 = .ok (.istore 6, 2) := by decide +kernel
theorem dX8_convert_54 : decode cX8_convert 54 = .ok (.iload 6, 2) := by decide +kernel
theorem dX8_convert_56 : decode cX8_convert 56 = .ok (.aload_n 0, 1) := by decide +kernel
theorem dX8_convert_57 : decode cX8_convert 57 = .ok (.getfield 27, 3) := by decide +kernel
theorem dX8_convert_60 : decode cX8_convert 60 = .ok (.iconst 0, 1) := by decide +kernel
theorem dX8_convert_61 : decode cX8_convert 61 = .ok (.iaload, 1) := by decide +kernel
theorem dX8_convert_62 : decode cX8_convert 62 = .ok (.if_icmp .ge 115, 3) := by decide +kernel
theorem dX8_convert_65 : decode cX8_convert 65 = .ok (.aload_n 0, 1) := by decide +kernel
theorem dX8_convert_66 : decode cX8_convert 66 = .ok (.getfield 39, 3) := by decide +kernel
theorem dX8_convert_69 : decode cX8_convert 69 = .ok (.iconst 0, 1) := by decide +kernel
theorem dX8_convert_70 : decode cX8_convert 70 = .ok (.aaload, 1) := by decide +kernel
theorem dX8_convert_71 : decode cX8_convert 71 = .ok (.iload 6, 2) := by decide +kernel
theorem dX8_convert_73 : decode cX8_convert 73 = .ok (.iaload, 1) := by decide +kernel
theorem dX8_convert_74 : decode cX8_convert 74 = .ok (.istore 7, 2) := by decide +kernel
theorem dX8_convert_76 : decode cX8_convert 76 = .ok (.aload_n 0, 1) := by decide +kernel
theorem dX8_convert_77 : decode cX8_convert 77 = .ok (.getfield 36, 3) := by decide +kernel
theorem dX8_convert_80 : decode cX8_convert 80 = .ok (.iconst 0, 1) := by decide +kernel
theorem dX8_convert_81 : decode cX8_convert 81 = .ok (.aaload, 1) := by decide +kernel
theorem dX8_convert_82 : decode cX8_convert 82 = .ok (.iload 6, 2) := by decide +kernel
theorem dX8_convert_84 : decode cX8_convert 84 = .ok (.iaload, 1) := by decide +kernel
theorem dX8_convert_85 : decode cX8_convert 85 = .ok (.ifCond .ge 13, 3) := by decide +kernel
theorem dX8_convert_88 : decode cX8_convert 88 = .ok (.aload_n 0, 1) := by decide +kernel
theorem dX8_convert_89 : decode cX8_convert 89 = .ok (.getfield 55, 3) := by decide +kernel
theorem dX8_convert_92 : decode cX8_convert 92 = .ok (.iload 7, 2) := by decide +kernel
theorem dX8_convert_94 : decode cX8_convert 94 = .ok (.iaload, 1) := by decide +kernel
theorem dX8_convert_95 : decode cX8_convert 95 = .ok (.ifCond .ne 7, 3) := by decide +kernel
theorem dX8_convert_98 : decode cX8_convert 98 = .ok (.iconst 1, 1) := by decide +kernel
theorem dX8_convert_99 : decode cX8_convert 99 = .ok (.goto 4, 3) := by decide +kernel
theorem dX8_convert_102 : decode cX8_convert 102 = .ok (.iconst 0, 1) := by decide +kernel
theorem dX8_convert_103 : decode cX8_convert 103 = .ok (.istore 8, 2) := by decide +kernel
theorem dX8_convert_105 : decode cX8_convert 105 = .ok (.iload 8, 2) := by decide +kernel
theorem dX8_convert_107 : decode cX8_convert 107 = .ok (.ifCond .ne 24, 3) := by decide +kernel
theorem dX8_convert_110 : decode cX8_convert 110 = .ok (.aload_n 0, 1) := by decide +kernel
theorem dX8_convert_111 : decode cX8_convert 111 = .ok (.getfield 49, 3) := by decide +kernel
theorem dX8_convert_114 : decode cX8_convert 114 = .ok (.iload 7, 2) := by decide +kernel
theorem dX8_convert_116 : decode cX8_convert 116 = .ok (.baload, 1) := by decide +kernel
theorem dX8_convert_117 : decode cX8_convert 117 = .ok (.ifCond .eq 18, 3) := by decide +kernel
theorem dX8_convert_120 : decode cX8_convert 120 = .ok (.aload_n 0, 1) := by decide +kernel
theorem dX8_convert_121 : decode cX8_convert 121 = .ok (.getfield 58, 3) := by decide +kernel
theorem dX8_convert_124 : decode cX8_convert 124 = .ok (.iload 7, 2) := by decide +kernel
theorem dX8_convert_126 : decode cX8_convert 126 = .ok (.iaload, 1) := by decide +kernel
theorem dX8_convert_127 : decode cX8_convert 127 = .ok (.iload_n 1, 1) := by decide +kernel
theorem dX8_convert_128 : decode cX8_convert 128 = .ok (.if_icmp .ge 7, 3) := by decide +kernel
theorem dX8_convert_131 : decode cX8_convert 131 = .ok (.iconst 1, 1) := by decide +kernel
theorem dX8_convert_132 : decode cX8_convert 132 = .ok (.goto 4, 3) := by decide +kernel
theorem dX8_convert_135 : decode cX8_convert 135 = .ok (.iconst 0, 1) := by decide +kernel
theorem dX8_convert_136 : decode cX8_convert 136 = .ok (.istore 9, 2) := by decide +kernel
theorem dX8_convert_138 : decode cX8_convert 138 = .ok (.iload 4, 2) := by decide +kernel
theorem dX8_convert_140 : decode cX8_convert 140 = .ok (.iload 9, 2) := by decide +kernel
theorem dX8_convert_142 : decode cX8_convert 142 = .ok (.ifCond .eq 18, 3) := by decide +kernel
theorem dX8_convert_145 : decode cX8_convert 145 = .ok (.aload_n 0, 1) := by decide +kernel
theorem dX8_convert_146 : decode cX8_convert 146 = .ok (.getfield 52, 3) := by decide +kernel
theorem dX8_convert_149 : decode cX8_convert 149 = .ok (.iload 7, 2) := by decide +kernel
theorem dX8_convert_151 : decode cX8_convert 151 = .ok (.iaload, 1) := by decide +kernel
theorem dX8_convert_152 : decode cX8_convert 152 = .ok (.iconst (-1), 1) := by decide +kernel
theorem dX8_convert_153 : decode cX8_convert 153 = .ok (.if_icmp .ne 7, 3) := by decide +kernel
theorem dX8_convert_156 : decode cX8_convert 156 = .ok (.iconst 1, 1) := by decide +kernel
theorem dX8_convert_157 : decode cX8_convert 157 = .ok (.goto 4, 3) := by decide +kernel
theorem dX8_convert_160 : decode cX8_convert 160 = .ok (.iconst 0, 1) := by decide +kernel
theorem dX8_convert_161 : decode cX8_convert 161 = .ok (.ior, 1) := by decide +kernel
theorem dX8_convert_162 : decode cX8_convert 162 = .ok (.istore 4, 2) := by decide +kernel
theorem dX8_convert_164 : decode cX8_convert 164 = .ok (.iload 5, 2) := by decide +kernel
theorem dX8_convert_166 : decode cX8_convert 166 = .ok (.iload 9, 2) := by decide +kernel
theorem dX8_convert_168 : decode cX8_convert 168 = .ok (.iand, 1) := by decide +kernel
theorem dX8_convert_169 : decode cX8_convert 169 = .ok (.istore 5, 2) := by decide +kernel
theorem dX8_convert_171 : decode cX8_convert 171 = .ok (.iinc 6 1, 3) := by decide +kernel
theorem dX8_convert_174 : decode cX8_convert 174 = .ok (.goto (-120), 3) := by decide +kernel
theorem dX8_convert_177 : decode cX8_convert 177 = .ok (.aload_n 0, 1) := by decide +kernel
theorem dX8_convert_178 : decode cX8_convert 178 = .ok (.getfield 52, 3) := by decide +kernel
theorem dX8_convert_181 : decode cX8_convert 181 = .ok (.iload_n 3, 1) := by decide +kernel
theorem dX8_convert_182 : decode cX8_convert 182 = .ok (.iaload, 1) := by decide +kernel
theorem dX8_convert_183 : decode cX8_convert 183 = .ok (.iconst 1, 1) := by decide +kernel
theorem dX8_convert_184 : decode cX8_convert 184 = .ok (.if_icmp .ne 11, 3) := by decide +kernel
theorem dX8_convert_187 : decode cX8_convert 187 = .ok (.iload 4, 2) := by decide +kernel
theorem dX8_convert_189 : decode cX8_convert 189 = .ok (.ifCond .eq 27, 3) := by decide +kernel
theorem dX8_convert_192 : decode cX8_convert 192 = .ok (.goto 8, 3) := by decide +kernel
theorem dX8_convert_195 : decode cX8_convert 195 = .ok (.iload 5, 2) := by decide +kernel
theorem dX8_convert_197 : decode cX8_convert 197 = .ok (.ifCond .eq 19, 3) := by decide +kernel
theorem dX8_convert_200 : decode cX8_convert 200 = .ok (.aload_n 0, 1) := by decide +kernel
theorem dX8_convert_201 : decode cX8_convert 201 = .ok (.getfield 58, 3) := by decide +kernel
theorem dX8_convert_204 : decode cX8_convert 204 = .ok (.iload_n 3, 1) := by decide +kernel
theorem dX8_convert_205 : decode cX8_convert 205 = .ok (.iload_n 1, 1) := by decide +kernel
theorem dX8_convert_206 : decode cX8_convert 206 = .ok (.iastore, 1) := by decide +kernel
theorem dX8_convert_207 : decode cX8_convert 207 = .ok (.aload_n 0, 1) := by decide +kernel
theorem dX8_convert_208 : decode cX8_convert 208 = .ok (.getfield 49, 3) := by decide +kernel
theorem dX8_convert_211 : decode cX8_convert 211 = .ok (.iload_n 3, 1) := by decide +kernel
theorem dX8_convert_212 : decode cX8_convert 212 = .ok (.iconst 1, 1) := by decide +kernel
theorem dX8_convert_213 : decode cX8_convert 213 = .ok (.bastore, 1) := by decide +kernel
theorem dX8_convert_214 : decode cX8_convert 214 = .ok (.iconst 1, 1) := by decide +kernel
theorem dX8_convert_215 : decode cX8_convert 215 = .ok (.istore_n 2, 1) := by decide +kernel
theorem dX8_convert_216 : decode cX8_convert 216 = .ok (.iinc 3 1, 3) := by decide +kernel
theorem dX8_convert_219 : decode cX8_convert 219 = .ok (.goto (-215), 3) := by decide +kernel
theorem dX8_convert_222 : decode cX8_convert 222 = .ok (.iload_n 2, 1) := by decide +kernel
theorem dX8_convert_223 : decode cX8_convert 223 = .ok (.ireturn, 1) := by decide +kernel
theorem dX8_verdict_0 : decode cX8_verdict 0 = .ok (.aload_n 0, 1) := by decide +kernel
theorem dX8_verdict_1 : decode cX8_verdict 1 = .ok (.getfield 13, 3) := by decide +kernel
theorem dX8_verdict_4 : decode cX8_verdict 4 = .ok (.bipush 6, 2) := by decide +kernel
theorem dX8_verdict_6 : decode cX8_verdict 6 = .ok (.iaload, 1) := by decide +kernel
theorem dX8_verdict_7 : decode cX8_verdict 7 = .ok (.ifCond .lt 23, 3) := by decide +kernel
theorem dX8_verdict_10 : decode cX8_verdict 10 = .ok (.aload_n 0, 1) := by decide +kernel
theorem dX8_verdict_11 : decode cX8_verdict 11 = .ok (.getfield 58, 3) := by decide +kernel
theorem dX8_verdict_14 : decode cX8_verdict 14 = .ok (.iload_n 1, 1) := by decide +kernel
theorem dX8_verdict_15 : decode cX8_verdict 15 = .ok (.iaload, 1) := by decide +kernel
theorem dX8_verdict_16 : decode cX8_verdict 16 = .ok (.aload_n 0, 1) := by decide +kernel
theorem dX8_verdict_17 : decode cX8_verdict 17 = .ok (.getfield 13, 3) := by decide +kernel
theorem dX8_verdict_20 : decode cX8_verdict 20 = .ok (.bipush 6, 2) := by decide +kernel
theorem dX8_verdict_22 : decode cX8_verdict 22 = .ok (.iaload, 1) := by decide +kernel
theorem dX8_verdict_23 : decode cX8_verdict 23 = .ok (.if_icmp .le 7, 3) := by decide +kernel
theorem dX8_verdict_26 : decode cX8_verdict 26 = .ok (.iconst 1, 1) := by decide +kernel
theorem dX8_verdict_27 : decode cX8_verdict 27 = .ok (.goto 4, 3) := by decide +kernel
theorem dX8_verdict_30 : decode cX8_verdict 30 = .ok (.iconst 0, 1) := by decide +kernel
theorem dX8_verdict_31 : decode cX8_verdict 31 = .ok (.istore_n 2, 1) := by decide +kernel
theorem dX8_verdict_32 : decode cX8_verdict 32 = .ok (.iload_n 2, 1) := by decide +kernel
theorem dX8_verdict_33 : decode cX8_verdict 33 = .ok (.ifCond .eq 7, 3) := by decide +kernel
theorem dX8_verdict_36 : decode cX8_verdict 36 = .ok (.iconst 0, 1) := by decide +kernel
theorem dX8_verdict_37 : decode cX8_verdict 37 = .ok (.goto 9, 3) := by decide +kernel
theorem dX8_verdict_40 : decode cX8_verdict 40 = .ok (.aload_n 0, 1) := by decide +kernel
theorem dX8_verdict_41 : decode cX8_verdict 41 = .ok (.getfield 52, 3) := by decide +kernel
theorem dX8_verdict_44 : decode cX8_verdict 44 = .ok (.iload_n 1, 1) := by decide +kernel
theorem dX8_verdict_45 : decode cX8_verdict 45 = .ok (.iaload, 1) := by decide +kernel
theorem dX8_verdict_46 : decode cX8_verdict 46 = .ok (.ireturn, 1) := by decide +kernel
theorem dX8_hasPawns_0 : decode cX8_hasPawns 0 = .ok (.iconst 0, 1) := by decide +kernel
theorem dX8_hasPawns_1 : decode cX8_hasPawns 1 = .ok (.istore_n 1, 1) := by decide +kernel
theorem dX8_hasPawns_2 : decode cX8_hasPawns 2 = .ok (.iconst 0, 1) := by decide +kernel
theorem dX8_hasPawns_3 : decode cX8_hasPawns 3 = .ok (.istore_n 2, 1) := by decide +kernel
theorem dX8_hasPawns_4 : decode cX8_hasPawns 4 = .ok (.iload_n 2, 1) := by decide +kernel
theorem dX8_hasPawns_5 : decode cX8_hasPawns 5 = .ok (.aload_n 0, 1) := by decide +kernel
theorem dX8_hasPawns_6 : decode cX8_hasPawns 6 = .ok (.getfield 13, 3) := by decide +kernel
theorem dX8_hasPawns_9 : decode cX8_hasPawns 9 = .ok (.iconst 2, 1) := by decide +kernel
theorem dX8_hasPawns_10 : decode cX8_hasPawns 10 = .ok (.iaload, 1) := by decide +kernel
theorem dX8_hasPawns_11 : decode cX8_hasPawns 11 = .ok (.if_icmp .ge 31, 3) := by decide +kernel
theorem dX8_hasPawns_14 : decode cX8_hasPawns 14 = .ok (.iload_n 1, 1) := by decide +kernel
theorem dX8_hasPawns_15 : decode cX8_hasPawns 15 = .ok (.aload_n 0, 1) := by decide +kernel
theorem dX8_hasPawns_16 : decode cX8_hasPawns 16 = .ok (.getfield 13, 3) := by decide +kernel
theorem dX8_hasPawns_19 : decode cX8_hasPawns 19 = .ok (.bipush 7, 2) := by decide +kernel
theorem dX8_hasPawns_21 : decode cX8_hasPawns 21 = .ok (.iload_n 2, 1) := by decide +kernel
theorem dX8_hasPawns_22 : decode cX8_hasPawns 22 = .ok (.iadd, 1) := by decide +kernel
theorem dX8_hasPawns_23 : decode cX8_hasPawns 23 = .ok (.iaload, 1) := by decide +kernel
theorem dX8_hasPawns_24 : decode cX8_hasPawns 24 = .ok (.bipush 9, 2) := by decide +kernel
theorem dX8_hasPawns_26 : decode cX8_hasPawns 26 = .ok (.if_icmp .ne 7, 3) := by decide +kernel
theorem dX8_hasPawns_29 : decode cX8_hasPawns 29 = .ok (.iconst 1, 1) := by decide +kernel
theorem dX8_hasPawns_30 : decode cX8_hasPawns 30 = .ok (.goto 4, 3) := by decide +kernel
theorem dX8_hasPawns_33 : decode cX8_hasPawns 33 = .ok (.iconst 0, 1) := by decide +kernel
theorem dX8_hasPawns_34 : decode cX8_hasPawns 34 = .ok (.ior, 1) := by decide +kernel
theorem dX8_hasPawns_35 : decode cX8_hasPawns 35 = .ok (.istore_n 1, 1) := by decide +kernel
theorem dX8_hasPawns_36 : decode cX8_hasPawns 36 = .ok (.iinc 2 1, 3) := by decide +kernel
theorem dX8_hasPawns_39 : decode cX8_hasPawns 39 = .ok (.goto (-35), 3) := by decide +kernel
theorem dX8_hasPawns_42 : decode cX8_hasPawns 42 = .ok (.iload_n 1, 1) := by decide +kernel
theorem dX8_hasPawns_43 : decode cX8_hasPawns 43 = .ok (.ireturn, 1) := by decide +kernel
theorem dX8_turned_0 : decode cX8_turned 0 = .ok (.iload_n 2, 1) := by decide +kernel
theorem dX8_turned_1 : decode cX8_turned 1 = .ok (.aload_n 0, 1) := by decide +kernel
theorem dX8_turned_2 : decode cX8_turned 2 = .ok (.invokevirtual 152, 3) := by decide +kernel
theorem dX8_turned_5 : decode cX8_turned 5 = .ok (.if_icmp .ne 5, 3) := by decide +kernel
theorem dX8_turned_8 : decode cX8_turned 8 = .ok (.iload_n 2, 1) := by decide +kernel
theorem dX8_turned_9 : decode cX8_turned 9 = .ok (.ireturn, 1) := by decide +kernel
theorem dX8_turned_10 : decode cX8_turned 10 = .ok (.iload_n 2, 1) := by decide +kernel
theorem dX8_turned_11 : decode cX8_turned 11 = .ok (.aload_n 0, 1) := by decide +kernel
theorem dX8_turned_12 : decode cX8_turned 12 = .ok (.getfield 13, 3) := by decide +kernel
theorem dX8_turned_15 : decode cX8_turned 15 = .ok (.iconst 0, 1) := by decide +kernel
theorem dX8_turned_16 : decode cX8_turned 16 = .ok (.iaload, 1) := by decide +kernel
theorem dX8_turned_17 : decode cX8_turned 17 = .ok (.irem, 1) := by decide +kernel
theorem dX8_turned_18 : decode cX8_turned 18 = .ok (.istore_n 3, 1) := by decide +kernel
theorem dX8_turned_19 : decode cX8_turned 19 = .ok (.iload_n 2, 1) := by decide +kernel
theorem dX8_turned_20 : decode cX8_turned 20 = .ok (.aload_n 0, 1) := by decide +kernel
theorem dX8_turned_21 : decode cX8_turned 21 = .ok (.getfield 13, 3) := by decide +kernel
theorem dX8_turned_24 : decode cX8_turned 24 = .ok (.iconst 0, 1) := by decide +kernel
theorem dX8_turned_25 : decode cX8_turned 25 = .ok (.iaload, 1) := by decide +kernel
theorem dX8_turned_26 : decode cX8_turned 26 = .ok (.idiv, 1) := by decide +kernel
theorem dX8_turned_27 : decode cX8_turned 27 = .ok (.istore 4, 2) := by decide +kernel
theorem dX8_turned_29 : decode cX8_turned 29 = .ok (.iload_n 1, 1) := by decide +kernel
theorem dX8_turned_30 : decode cX8_turned 30 = .ok (.iconst 0, 1) := by decide +kernel
theorem dX8_turned_31 : decode cX8_turned 31 = .ok (.invokestatic 164, 3) := by decide +kernel
theorem dX8_turned_34 : decode cX8_turned 34 = .ok (.ifCond .eq 16, 3) := by decide +kernel
theorem dX8_turned_37 : decode cX8_turned 37 = .ok (.aload_n 0, 1) := by decide +kernel
theorem dX8_turned_38 : decode cX8_turned 38 = .ok (.getfield 13, 3) := by decide +kernel
theorem dX8_turned_41 : decode cX8_turned 41 = .ok (.iconst 0, 1) := by decide +kernel
theorem dX8_turned_42 : decode cX8_turned 42 = .ok (.iaload, 1) := by decide +kernel
theorem dX8_turned_43 : decode cX8_turned 43 = .ok (.iconst 1, 1) := by decide +kernel
theorem dX8_turned_44 : decode cX8_turned 44 = .ok (.isub, 1) := by decide +kernel
theorem dX8_turned_45 : decode cX8_turned 45 = .ok (.iload_n 3, 1) := by decide +kernel
theorem dX8_turned_46 : decode cX8_turned 46 = .ok (.isub, 1) := by decide +kernel
theorem dX8_turned_47 : decode cX8_turned 47 = .ok (.goto 4, 3) := by decide +kernel
theorem dX8_turned_50 : decode cX8_turned 50 = .ok (.iload_n 3, 1) := by decide +kernel
theorem dX8_turned_51 : decode cX8_turned 51 = .ok (.istore_n 3, 1) := by decide +kernel
theorem dX8_turned_52 : decode cX8_turned 52 = .ok (.iload_n 1, 1) := by decide +kernel
theorem dX8_turned_53 : decode cX8_turned 53 = .ok (.iconst 1, 1) := by decide +kernel
theorem dX8_turned_54 : decode cX8_turned 54 = .ok (.invokestatic 164, 3) := by decide +kernel
theorem dX8_turned_57 : decode cX8_turned 57 = .ok (.ifCond .eq 17, 3) := by decide +kernel
theorem dX8_turned_60 : decode cX8_turned 60 = .ok (.aload_n 0, 1) := by decide +kernel
theorem dX8_turned_61 : decode cX8_turned 61 = .ok (.getfield 13, 3) := by decide +kernel
theorem dX8_turned_64 : decode cX8_turned 64 = .ok (.iconst 1, 1) := by decide +kernel
theorem dX8_turned_65 : decode cX8_turned 65 = .ok (.iaload, 1) := by decide +kernel
theorem dX8_turned_66 : decode cX8_turned 66 = .ok (.iconst 1, 1) := by decide +kernel
theorem dX8_turned_67 : decode cX8_turned 67 = .ok (.isub, 1) := by decide +kernel
theorem dX8_turned_68 : decode cX8_turned 68 = .ok (.iload 4, 2) := by decide +kernel
theorem dX8_turned_70 : decode cX8_turned 70 = .ok (.isub, 1) := by decide +kernel
theorem dX8_turned_71 : decode cX8_turned 71 = .ok (.goto 5, 3) := by decide +kernel
theorem dX8_turned_74 : decode cX8_turned 74 = .ok (.iload 4, 2) := by decide +kernel
theorem dX8_turned_76 : decode cX8_turned 76 = .ok (.istore 4, 2) := by decide +kernel
theorem dX8_turned_78 : decode cX8_turned 78 = .ok (.iload_n 1, 1) := by decide +kernel
theorem dX8_turned_79 : decode cX8_turned 79 = .ok (.iconst 2, 1) := by decide +kernel
theorem dX8_turned_80 : decode cX8_turned 80 = .ok (.invokestatic 164, 3) := by decide +kernel
theorem dX8_turned_83 : decode cX8_turned 83 = .ok (.ifCond .eq 17, 3) := by decide +kernel
theorem dX8_turned_86 : decode cX8_turned 86 = .ok (.iload_n 3, 1) := by decide +kernel
theorem dX8_turned_87 : decode cX8_turned 87 = .ok (.aload_n 0, 1) := by decide +kernel
theorem dX8_turned_88 : decode cX8_turned 88 = .ok (.getfield 13, 3) := by decide +kernel
theorem dX8_turned_91 : decode cX8_turned 91 = .ok (.iconst 0, 1) := by decide +kernel
theorem dX8_turned_92 : decode cX8_turned 92 = .ok (.iaload, 1) := by decide +kernel
theorem dX8_turned_93 : decode cX8_turned 93 = .ok (.imul, 1) := by decide +kernel
theorem dX8_turned_94 : decode cX8_turned 94 = .ok (.iload 4, 2) := by decide +kernel
theorem dX8_turned_96 : decode cX8_turned 96 = .ok (.iadd, 1) := by decide +kernel
theorem dX8_turned_97 : decode cX8_turned 97 = .ok (.goto 14, 3) := by decide +kernel
theorem dX8_turned_100 : decode cX8_turned 100 = .ok (.iload 4, 2) := by decide +kernel
theorem dX8_turned_102 : decode cX8_turned 102 = .ok (.aload_n 0, 1) := by decide +kernel
theorem dX8_turned_103 : decode cX8_turned 103 = .ok (.getfield 13, 3) := by decide +kernel
theorem dX8_turned_106 : decode cX8_turned 106 = .ok (.iconst 0, 1) := by decide +kernel
theorem dX8_turned_107 : decode cX8_turned 107 = .ok (.iaload, 1) := by decide +kernel
theorem dX8_turned_108 : decode cX8_turned 108 = .ok (.imul, 1) := by decide +kernel
theorem dX8_turned_109 : decode cX8_turned 109 = .ok (.iload_n 3, 1) := by decide +kernel
theorem dX8_turned_110 : decode cX8_turned 110 = .ok (.iadd, 1) := by decide +kernel
theorem dX8_turned_111 : decode cX8_turned 111 = .ok (.ireturn, 1) := by decide +kernel
theorem dX8_isSymmetry_0 : decode cX8_isSymmetry 0 = .ok (.aload_n 0, 1) := by decide +kernel
theorem dX8_isSymmetry_1 : decode cX8_isSymmetry 1 = .ok (.invokevirtual 231, 3) := by decide +kernel
theorem dX8_isSymmetry_4 : decode cX8_isSymmetry 4 = .ok (.ifCond .eq 8, 3) := by decide +kernel
theorem dX8_isSymmetry_7 : decode cX8_isSymmetry 7 = .ok (.iload_n 1, 1) := by decide +kernel
theorem dX8_isSymmetry_8 : decode cX8_isSymmetry 8 = .ok (.iconst 1, 1) := by decide +kernel
theorem dX8_isSymmetry_9 : decode cX8_isSymmetry 9 = .ok (.if_icmp .gt 26, 3) := by decide +kernel
theorem dX8_isSymmetry_12 : decode cX8_isSymmetry 12 = .ok (.iload_n 1, 1) := by decide +kernel
theorem dX8_isSymmetry_13 : decode cX8_isSymmetry 13 = .ok (.iconst 2, 1) := by decide +kernel
theorem dX8_isSymmetry_14 : decode cX8_isSymmetry 14 = .ok (.invokestatic 164, 3) := by decide +kernel
theorem dX8_isSymmetry_17 : decode cX8_isSymmetry 17 = .ok (.ifCond .eq 20, 3) := by decide +kernel
theorem dX8_isSymmetry_20 : decode cX8_isSymmetry 20 = .ok (.aload_n 0, 1) := by decide +kernel
theorem dX8_isSymmetry_21 : decode cX8_isSymmetry 21 = .ok (.getfield 13, 3) := by decide +kernel
theorem dX8_isSymmetry_24 : decode cX8_isSymmetry 24 = .ok (.iconst 0, 1) := by decide +kernel
theorem dX8_isSymmetry_25 : decode cX8_isSymmetry 25 = .ok (.iaload, 1) := by decide +kernel
theorem dX8_isSymmetry_26 : decode cX8_isSymmetry 26 = .ok (.aload_n 0, 1) := by decide +kernel
theorem dX8_isSymmetry_27 : decode cX8_isSymmetry 27 = .ok (.getfield 13, 3) := by decide +kernel
theorem dX8_isSymmetry_30 : decode cX8_isSymmetry 30 = .ok (.iconst 1, 1) := by decide +kernel
theorem dX8_isSymmetry_31 : decode cX8_isSymmetry 31 = .ok (.iaload, 1) := by decide +kernel
theorem dX8_isSymmetry_32 : decode cX8_isSymmetry 32 = .ok (.if_icmp .eq 5, 3) := by decide +kernel
theorem dX8_isSymmetry_35 : decode cX8_isSymmetry 35 = .ok (.iconst 0, 1) := by decide +kernel
theorem dX8_isSymmetry_36 : decode cX8_isSymmetry 36 = .ok (.ireturn, 1) := by decide +kernel
theorem dX8_isSymmetry_37 : decode cX8_isSymmetry 37 = .ok (.iconst 1, 1) := by decide +kernel
theorem dX8_isSymmetry_38 : decode cX8_isSymmetry 38 = .ok (.istore_n 2, 1) := by decide +kernel
theorem dX8_isSymmetry_39 : decode cX8_isSymmetry 39 = .ok (.iconst 0, 1) := by decide +kernel
theorem dX8_isSymmetry_40 : decode cX8_isSymmetry 40 = .ok (.istore_n 3, 1) := by decide +kernel
theorem dX8_isSymmetry_41 : decode cX8_isSymmetry 41 = .ok (.iload_n 3, 1) := by decide +kernel
theorem dX8_isSymmetry_42 : decode cX8_isSymmetry 42 = .ok (.aload_n 0, 1) := by decide +kernel
theorem dX8_isSymmetry_43 : decode cX8_isSymmetry 43 = .ok (.invokevirtual 152, 3) := by decide +kernel
theorem dX8_isSymmetry_46 : decode cX8_isSymmetry 46 = .ok (.if_icmp .ge 45, 3) := by decide +kernel
theorem dX8_isSymmetry_49 : decode cX8_isSymmetry 49 = .ok (.iload_n 2, 1) := by decide +kernel
theorem dX8_isSymmetry_50 : decode cX8_isSymmetry 50 = .ok (.aload_n 0, 1) := by decide +kernel
theorem dX8_isSymmetry_51 : decode cX8_isSymmetry 51 = .ok (.getfield 13, 3) := by decide +kernel
theorem dX8_isSymmetry_54 : decode cX8_isSymmetry 54 = .ok (.iconst 4, 1) := by decide +kernel
theorem dX8_isSymmetry_55 : decode cX8_isSymmetry 55 = .ok (.iaload, 1) := by decide +kernel
theorem dX8_isSymmetry_56 : decode cX8_isSymmetry 56 = .ok (.iload_n 3, 1) := by decide +kernel
theorem dX8_isSymmetry_57 : decode cX8_isSymmetry 57 = .ok (.invokestatic 164, 3) := by decide +kernel
theorem dX8_isSymmetry_60 : decode cX8_isSymmetry 60 = .ok (.aload_n 0, 1) := by decide +kernel
theorem dX8_isSymmetry_61 : decode cX8_isSymmetry 61 = .ok (.getfield 13, 3) := by decide +kernel
theorem dX8_isSymmetry_64 : decode cX8_isSymmetry 64 = .ok (.iconst 4, 1) := by decide +kernel
theorem dX8_isSymmetry_65 : decode cX8_isSymmetry 65 = .ok (.iaload, 1) := by decide +kernel
theorem dX8_isSymmetry_66 : decode cX8_isSymmetry 66 = .ok (.aload_n 0, 1) := by decide +kernel
theorem dX8_isSymmetry_67 : decode cX8_isSymmetry 67 = .ok (.iload_n 1, 1) := by decide +kernel
theorem dX8_isSymmetry_68 : decode cX8_isSymmetry 68 = .ok (.iload_n 3, 1) := by decide +kernel
theorem dX8_isSymmetry_69 : decode cX8_isSymmetry 69 = .ok (.invokevirtual 235, 3) := by decide +kernel
theorem dX8_isSymmetry_72 : decode cX8_isSymmetry 72 = .ok (.invokestatic 164, 3) := by decide +kernel
theorem dX8_isSymmetry_75 : decode cX8_isSymmetry 75 = .ok (.if_icmp .ne 7, 3) := by decide +kernel
theorem dX8_isSymmetry_78 : decode cX8_isSymmetry 78 = .ok (.iconst 1, 1) := by decide +kernel
theorem dX8_isSymmetry_79 : decode cX8_isSymmetry 79 = .ok (.goto 4, 3) := by decide +kernel
theorem dX8_isSymmetry_82 : decode cX8_isSymmetry 82 = .ok (.iconst 0, 1) := by decide +kernel
theorem dX8_isSymmetry_83 : decode cX8_isSymmetry 83 = .ok (.iand, 1) := by decide +kernel
theorem dX8_isSymmetry_84 : decode cX8_isSymmetry 84 = .ok (.istore_n 2, 1) := by decide +kernel
theorem dX8_isSymmetry_85 : decode cX8_isSymmetry 85 = .ok (.iinc 3 1, 3) := by decide +kernel
theorem dX8_isSymmetry_88 : decode cX8_isSymmetry 88 = .ok (.goto (-47), 3) := by decide +kernel
theorem dX8_isSymmetry_91 : decode cX8_isSymmetry 91 = .ok (.iload_n 2, 1) := by decide +kernel
theorem dX8_isSymmetry_92 : decode cX8_isSymmetry 92 = .ok (.ireturn, 1) := by decide +kernel
theorem dX8_countSymmetries_0 : decode cX8_countSymmetries 0 = .ok (.iconst 0, 1) := by decide +kernel
theorem dX8_countSymmetries_1 : decode cX8_countSymmetries 1 = .ok (.istore_n 1, 1) := by decide +kernel
theorem dX8_countSymmetries_2 : decode cX8_countSymmetries 2 = .ok (.iconst 0, 1) := by decide +kernel
theorem dX8_countSymmetries_3 : decode cX8_countSymmetries 3 = .ok (.istore_n 2, 1) := by decide +kernel
theorem dX8_countSymmetries_4 : decode cX8_countSymmetries 4 = .ok (.iload_n 2, 1) := by decide +kernel
theorem dX8_countSymmetries_5 : decode cX8_countSymmetries 5 = .ok (.bipush 8, 2) := by decide +kernel
theorem dX8_countSymmetries_7 : decode cX8_countSymmetries 7 = .ok (.if_icmp .ge 25, 3) := by decide +kernel
theorem dX8_countSymmetries_10 : decode cX8_countSymmetries 10 = .ok (.iload_n 1, 1) := by decide +kernel
theorem dX8_countSymmetries_11 : decode cX8_countSymmetries 11 = .ok (.aload_n 0, 1) := by decide +kernel
theorem dX8_countSymmetries_12 : decode cX8_countSymmetries 12 = .ok (.iload_n 2, 1) := by decide +kernel
theorem dX8_countSymmetries_13 : decode cX8_countSymmetries 13 = .ok (.invokevirtual 238, 3) := by decide +kernel
theorem dX8_countSymmetries_16 : decode cX8_countSymmetries 16 = .ok (.ifCond .eq 7, 3) := by decide +kernel
theorem dX8_countSymmetries_19 : decode cX8_countSymmetries 19 = .ok (.iconst 1, 1) := by decide +kernel
theorem dX8_countSymmetries_20 : decode cX8_countSymmetries 20 = .ok (.goto 4, 3) := by decide +kernel
theorem dX8_countSymmetries_23 : decode cX8_countSymmetries 23 = .ok (.iconst 0, 1) := by decide +kernel
theorem dX8_countSymmetries_24 : decode cX8_countSymmetries 24 = .ok (.iadd, 1) := by decide +kernel
theorem dX8_countSymmetries_25 : decode cX8_countSymmetries 25 = .ok (.istore_n 1, 1) := by decide +kernel
theorem dX8_countSymmetries_26 : decode cX8_countSymmetries 26 = .ok (.iinc 2 1, 3) := by decide +kernel
theorem dX8_countSymmetries_29 : decode cX8_countSymmetries 29 = .ok (.goto (-25), 3) := by decide +kernel
theorem dX8_countSymmetries_32 : decode cX8_countSymmetries 32 = .ok (.iload_n 1, 1) := by decide +kernel
theorem dX8_countSymmetries_33 : decode cX8_countSymmetries 33 = .ok (.ireturn, 1) := by decide +kernel
theorem dX8_imageOf_0 : decode cX8_imageOf 0 = .ok (.aload_n 0, 1) := by decide +kernel
theorem dX8_imageOf_1 : decode cX8_imageOf 1 = .ok (.iload_n 1, 1) := by decide +kernel
theorem dX8_imageOf_2 : decode cX8_imageOf 2 = .ok (.aload_n 0, 1) := by decide +kernel
theorem dX8_imageOf_3 : decode cX8_imageOf 3 = .ok (.getfield 61, 3) := by decide +kernel
theorem dX8_imageOf_6 : decode cX8_imageOf 6 = .ok (.invokevirtual 201, 3) := by decide +kernel
theorem dX8_imageOf_9 : decode cX8_imageOf 9 = .ok (.iconst 0, 1) := by decide +kernel
theorem dX8_imageOf_10 : decode cX8_imageOf 10 = .ok (.istore_n 3, 1) := by decide +kernel
theorem dX8_imageOf_11 : decode cX8_imageOf 11 = .ok (.iload_n 3, 1) := by decide +kernel
theorem dX8_imageOf_12 : decode cX8_imageOf 12 = .ok (.iconst 3, 1) := by decide +kernel
theorem dX8_imageOf_13 : decode cX8_imageOf 13 = .ok (.if_icmp .ge 26, 3) := by decide +kernel
theorem dX8_imageOf_16 : decode cX8_imageOf 16 = .ok (.aload_n 0, 1) := by decide +kernel
theorem dX8_imageOf_17 : decode cX8_imageOf 17 = .ok (.getfield 64, 3) := by decide +kernel
theorem dX8_imageOf_20 : decode cX8_imageOf 20 = .ok (.iload_n 3, 1) := by decide +kernel
theorem dX8_imageOf_21 : decode cX8_imageOf 21 = .ok (.aload_n 0, 1) := by decide +kernel
theorem dX8_imageOf_22 : decode cX8_imageOf 22 = .ok (.iload_n 2, 1) := by decide +kernel
theorem dX8_imageOf_23 : decode cX8_imageOf 23 = .ok (.aload_n 0, 1) := by decide +kernel
theorem dX8_imageOf_24 : decode cX8_imageOf 24 = .ok (.getfield 61, 3) := by decide +kernel
theorem dX8_imageOf_27 : decode cX8_imageOf 27 = .ok (.iload_n 3, 1) := by decide +kernel
theorem dX8_imageOf_28 : decode cX8_imageOf 28 = .ok (.iaload, 1) := by decide +kernel
theorem dX8_imageOf_29 : decode cX8_imageOf 29 = .ok (.invokevirtual 235, 3) := by decide +kernel
theorem dX8_imageOf_32 : decode cX8_imageOf 32 = .ok (.iastore, 1) := by decide +kernel
theorem dX8_imageOf_33 : decode cX8_imageOf 33 = .ok (.iinc 3 1, 3) := by decide +kernel
theorem dX8_imageOf_36 : decode cX8_imageOf 36 = .ok (.goto (-25), 3) := by decide +kernel
theorem dX8_imageOf_39 : decode cX8_imageOf 39 = .ok (.aload_n 0, 1) := by decide +kernel
theorem dX8_imageOf_40 : decode cX8_imageOf 40 = .ok (.aload_n 0, 1) := by decide +kernel
theorem dX8_imageOf_41 : decode cX8_imageOf 41 = .ok (.getfield 64, 3) := by decide +kernel
theorem dX8_imageOf_44 : decode cX8_imageOf 44 = .ok (.iload_n 1, 1) := by decide +kernel
theorem dX8_imageOf_45 : decode cX8_imageOf 45 = .ok (.iconst 2, 1) := by decide +kernel
theorem dX8_imageOf_46 : decode cX8_imageOf 46 = .ok (.irem, 1) := by decide +kernel
theorem dX8_imageOf_47 : decode cX8_imageOf 47 = .ok (.invokevirtual 199, 3) := by decide +kernel
theorem dX8_imageOf_50 : decode cX8_imageOf 50 = .ok (.ireturn, 1) := by decide +kernel
theorem dX8_canonical_0 : decode cX8_canonical 0 = .ok (.iload_n 1, 1) := by decide +kernel
theorem dX8_canonical_1 : decode cX8_canonical 1 = .ok (.istore_n 2, 1) := by decide +kernel
theorem dX8_canonical_2 : decode cX8_canonical 2 = .ok (.iconst 0, 1) := by decide +kernel
theorem dX8_canonical_3 : decode cX8_canonical 3 = .ok (.istore_n 3, 1) := by decide +kernel
theorem dX8_canonical_4 : decode cX8_canonical 4 = .ok (.iload_n 3, 1) := by decide +kernel
theorem dX8_canonical_5 : decode cX8_canonical 5 = .ok (.bipush 8, 2) := by decide +kernel
theorem dX8_canonical_7 : decode cX8_canonical 7 = .ok (.if_icmp .ge 42, 3) := by decide +kernel
theorem dX8_canonical_10 : decode cX8_canonical 10 = .ok (.aload_n 0, 1) := by decide +kernel
theorem dX8_canonical_11 : decode cX8_canonical 11 = .ok (.iload_n 3, 1) := by decide +kernel
theorem dX8_canonical_12 : decode cX8_canonical 12 = .ok (.invokevirtual 238, 3) := by decide +kernel
theorem dX8_canonical_15 : decode cX8_canonical 15 = .ok (.ifCond .eq 12, 3) := by decide +kernel
theorem dX8_canonical_18 : decode cX8_canonical 18 = .ok (.aload_n 0, 1) := by decide +kernel
theorem dX8_canonical_19 : decode cX8_canonical 19 = .ok (.iload_n 1, 1) := by decide +kernel
theorem dX8_canonical_20 : decode cX8_canonical 20 = .ok (.iload_n 3, 1) := by decide +kernel
theorem dX8_canonical_21 : decode cX8_canonical 21 = .ok (.invokevirtual 241, 3) := by decide +kernel
theorem dX8_canonical_24 : decode cX8_canonical 24 = .ok (.goto 4, 3) := by decide +kernel
theorem dX8_canonical_27 : decode cX8_canonical 27 = .ok (.iload_n 1, 1) := by decide +kernel
theorem dX8_canonical_28 : decode cX8_canonical 28 = .ok (.istore 4, 2) := by decide +kernel
theorem dX8_canonical_30 : decode cX8_canonical 30 = .ok (.iload 4, 2) := by decide +kernel
theorem dX8_canonical_32 : decode cX8_canonical 32 = .ok (.iload_n 2, 1) := by decide +kernel
theorem dX8_canonical_33 : decode cX8_canonical 33 = .ok (.if_icmp .ge 8, 3) := by decide +kernel
theorem dX8_canonical_36 : decode cX8_canonical 36 = .ok (.iload 4, 2) := by decide +kernel
theorem dX8_canonical_38 : decode cX8_canonical 38 = .ok (.goto 4, 3) := by decide +kernel
theorem dX8_canonical_41 : decode cX8_canonical 41 = .ok (.iload_n 2, 1) := by decide +kernel
theorem dX8_canonical_42 : decode cX8_canonical 42 = .ok (.istore_n 2, 1) := by decide +kernel
theorem dX8_canonical_43 : decode cX8_canonical 43 = .ok (.iinc 3 1, 3) := by decide +kernel
theorem dX8_canonical_46 : decode cX8_canonical 46 = .ok (.goto (-42), 3) := by decide +kernel
theorem dX8_canonical_49 : decode cX8_canonical 49 = .ok (.iload_n 2, 1) := by decide +kernel
theorem dX8_canonical_50 : decode cX8_canonical 50 = .ok (.ireturn, 1) := by decide +kernel
theorem dX8_countImages_0 : decode cX8_countImages 0 = .ok (.iconst 0, 1) := by decide +kernel
theorem dX8_countImages_1 : decode cX8_countImages 1 = .ok (.istore_n 2, 1) := by decide +kernel
theorem dX8_countImages_2 : decode cX8_countImages 2 = .ok (.iconst 0, 1) := by decide +kernel
theorem dX8_countImages_3 : decode cX8_countImages 3 = .ok (.istore_n 3, 1) := by decide +kernel
theorem dX8_countImages_4 : decode cX8_countImages 4 = .ok (.iload_n 3, 1) := by decide +kernel
theorem dX8_countImages_5 : decode cX8_countImages 5 = .ok (.bipush 8, 2) := by decide +kernel
theorem dX8_countImages_7 : decode cX8_countImages 7 = .ok (.if_icmp .ge 81, 3) := by decide +kernel
theorem dX8_countImages_10 : decode cX8_countImages 10 = .ok (.aload_n 0, 1) := by decide +kernel
theorem dX8_countImages_11 : decode cX8_countImages 11 = .ok (.iload_n 3, 1) := by decide +kernel
theorem dX8_countImages_12 : decode cX8_countImages 12 = .ok (.invokevirtual 238, 3) := by decide +kernel
theorem dX8_countImages_15 : decode cX8_countImages 15 = .ok (.istore 4, 2) := by decide +kernel
theorem dX8_countImages_17 : decode cX8_countImages 17 = .ok (.iconst 0, 1) := by decide +kernel
theorem dX8_countImages_18 : decode cX8_countImages 18 = .ok (.istore 5, 2) := by decide +kernel
theorem dX8_countImages_20 : decode cX8_countImages 20 = .ok (.iload 5, 2) := by decide +kernel
theorem dX8_countImages_22 : decode cX8_countImages 22 = .ok (.iload_n 3, 1) := by decide +kernel
theorem dX8_countImages_23 : decode cX8_countImages 23 = .ok (.if_icmp .ge 46, 3) := by decide +kernel
theorem dX8_countImages_26 : decode cX8_countImages 26 = .ok (.iload 4, 2) := by decide +kernel
theorem dX8_countImages_28 : decode cX8_countImages 28 = .ok (.ifCond .eq 41, 3) := by decide +kernel
theorem dX8_countImages_31 : decode cX8_countImages 31 = .ok (.aload_n 0, 1) := by decide +kernel
theorem dX8_countImages_32 : decode cX8_countImages 32 = .ok (.iload 5, 2) := by decide +kernel
theorem dX8_countImages_34 : decode cX8_countImages 34 = .ok (.invokevirtual 238, 3) := by decide +kernel
theorem dX8_countImages_37 : decode cX8_countImages 37 = .ok (.ifCond .eq 19, 3) := by decide +kernel
theorem dX8_countImages_40 : decode cX8_countImages 40 = .ok (.aload_n 0, 1) := by decide +kernel
theorem dX8_countImages_41 : decode cX8_countImages 41 = .ok (.iload_n 1, 1) := by decide +kernel
theorem dX8_countImages_42 : decode cX8_countImages 42 = .ok (.iload 5, 2) := by decide +kernel
theorem dX8_countImages_44 : decode cX8_countImages 44 = .ok (.invokevirtual 241, 3) := by decide +kernel
theorem dX8_countImages_47 : decode cX8_countImages 47 = .ok (.aload_n 0, 1) := by decide +kernel
theorem dX8_countImages_48 : decode cX8_countImages 48 = .ok (.iload_n 1, 1) := by decide +kernel
theorem dX8_countImages_49 : decode cX8_countImages 49 = .ok (.iload_n 3, 1) := by decide +kernel
theorem dX8_countImages_50 : decode cX8_countImages 50 = .ok (.invokevirtual 241, 3) := by decide +kernel
theorem dX8_countImages_53 : decode cX8_countImages 53 = .ok (.if_icmp .eq 7, 3) := by decide +kernel
theorem dX8_countImages_56 : decode cX8_countImages 56 = .ok (.iconst 1, 1) := by decide +kernel
theorem dX8_countImages_57 : decode cX8_countImages 57 = .ok (.goto 4, 3) := by decide +kernel
theorem dX8_countImages_60 : decode cX8_countImages 60 = .ok (.iconst 0, 1) := by decide +kernel
theorem dX8_countImages_61 : decode cX8_countImages 61 = .ok (.istore 4, 2) := by decide +kernel
theorem dX8_countImages_63 : decode cX8_countImages 63 = .ok (.iinc 5 1, 3) := by decide +kernel
theorem dX8_countImages_66 : decode cX8_countImages 66 = .ok (.goto (-46), 3) := by decide +kernel
theorem dX8_countImages_69 : decode cX8_countImages 69 = .ok (.iload_n 2, 1) := by decide +kernel
theorem dX8_countImages_70 : decode cX8_countImages 70 = .ok (.iload 4, 2) := by decide +kernel
theorem dX8_countImages_72 : decode cX8_countImages 72 = .ok (.ifCond .eq 7, 3) := by decide +kernel
theorem dX8_countImages_75 : decode cX8_countImages 75 = .ok (.iconst 1, 1) := by decide +kernel
theorem dX8_countImages_76 : decode cX8_countImages 76 = .ok (.goto 4, 3) := by decide +kernel
theorem dX8_countImages_79 : decode cX8_countImages 79 = .ok (.iconst 0, 1) := by decide +kernel
theorem dX8_countImages_80 : decode cX8_countImages 80 = .ok (.iadd, 1) := by decide +kernel
theorem dX8_countImages_81 : decode cX8_countImages 81 = .ok (.istore_n 2, 1) := by decide +kernel
theorem dX8_countImages_82 : decode cX8_countImages 82 = .ok (.iinc 3 1, 3) := by decide +kernel
theorem dX8_countImages_85 : decode cX8_countImages 85 = .ok (.goto (-81), 3) := by decide +kernel
theorem dX8_countImages_88 : decode cX8_countImages 88 = .ok (.iload_n 2, 1) := by decide +kernel
theorem dX8_countImages_89 : decode cX8_countImages 89 = .ok (.ireturn, 1) := by decide +kernel
theorem dX8_countPossible_0 : decode cX8_countPossible 0 = .ok (.iconst 0, 1) := by decide +kernel
theorem dX8_countPossible_1 : decode cX8_countPossible 1 = .ok (.istore_n 1, 1) := by decide +kernel
theorem dX8_countPossible_2 : decode cX8_countPossible 2 = .ok (.iconst 0, 1) := by decide +kernel
theorem dX8_countPossible_3 : decode cX8_countPossible 3 = .ok (.istore_n 2, 1) := by decide +kernel
theorem dX8_countPossible_4 : decode cX8_countPossible 4 = .ok (.iload_n 2, 1) := by decide +kernel
theorem dX8_countPossible_5 : decode cX8_countPossible 5 = .ok (.aload_n 0, 1) := by decide +kernel
theorem dX8_countPossible_6 : decode cX8_countPossible 6 = .ok (.getfield 213, 3) := by decide +kernel
theorem dX8_countPossible_9 : decode cX8_countPossible 9 = .ok (.if_icmp .ge 26, 3) := by decide +kernel
theorem dX8_countPossible_12 : decode cX8_countPossible 12 = .ok (.iload_n 1, 1) := by decide +kernel
theorem dX8_countPossible_13 : decode cX8_countPossible 13 = .ok (.aload_n 0, 1) := by decide +kernel
theorem dX8_countPossible_14 : decode cX8_countPossible 14 = .ok (.getfield 42, 3) := by decide +kernel
theorem dX8_countPossible_17 : decode cX8_countPossible 17 = .ok (.iload_n 2, 1) := by decide +kernel
theorem dX8_countPossible_18 : decode cX8_countPossible 18 = .ok (.baload, 1) := by decide +kernel
theorem dX8_countPossible_19 : decode cX8_countPossible 19 = .ok (.ifCond .eq 7, 3) := by decide +kernel
theorem dX8_countPossible_22 : decode cX8_countPossible 22 = .ok (.iconst 1, 1) := by decide +kernel
theorem dX8_countPossible_23 : decode cX8_countPossible 23 = .ok (.goto 4, 3) := by decide +kernel
theorem dX8_countPossible_26 : decode cX8_countPossible 26 = .ok (.iconst 0, 1) := by decide +kernel
theorem dX8_countPossible_27 : decode cX8_countPossible 27 = .ok (.iadd, 1) := by decide +kernel
theorem dX8_countPossible_28 : decode cX8_countPossible 28 = .ok (.istore_n 1, 1) := by decide +kernel
theorem dX8_countPossible_29 : decode cX8_countPossible 29 = .ok (.iinc 2 1, 3) := by decide +kernel
theorem dX8_countPossible_32 : decode cX8_countPossible 32 = .ok (.goto (-28), 3) := by decide +kernel
theorem dX8_countPossible_35 : decode cX8_countPossible 35 = .ok (.iload_n 1, 1) := by decide +kernel
theorem dX8_countPossible_36 : decode cX8_countPossible 36 = .ok (.ireturn, 1) := by decide +kernel
theorem dX8_game_0 : decode cX8_game 0 = .ok (.aload_n 0, 1) := by decide +kernel
theorem dX8_game_1 : decode cX8_game 1 = .ok (.getfield 146, 3) := by decide +kernel
theorem dX8_game_4 : decode cX8_game 4 = .ok (.ifCond .ne 6, 3) := by decide +kernel
theorem dX8_game_7 : decode cX8_game 7 = .ok (.bipush (-3), 2) := by decide +kernel
theorem dX8_game_9 : decode cX8_game 9 = .ok (.ireturn, 1) := by decide +kernel
theorem dX8_game_10 : decode cX8_game 10 = .ok (.iload_n 1, 1) := by decide +kernel
theorem dX8_game_11 : decode cX8_game 11 = .ok (.bipush 10, 2) := by decide +kernel
theorem dX8_game_13 : decode cX8_game 13 = .ok (.bipush 9, 2) := by decide +kernel
theorem dX8_game_15 : decode cX8_game 15 = .ok (.aload_n 0, 1) := by decide +kernel
theorem dX8_game_16 : decode cX8_game 16 = .ok (.getfield 13, 3) := by decide +kernel
theorem dX8_game_19 : decode cX8_game 19 = .ok (.iconst 2, 1) := by decide +kernel
theorem dX8_game_20 : decode cX8_game 20 = .ok (.iaload, 1) := by decide +kernel
theorem dX8_game_21 : decode cX8_game 21 = .ok (.iadd, 1) := by decide +kernel
theorem dX8_game_22 : decode cX8_game 22 = .ok (.invokestatic 86, 3) := by decide +kernel
theorem dX8_game_25 : decode cX8_game 25 = .ok (.ifCond .eq 16, 3) := by decide +kernel
theorem dX8_game_28 : decode cX8_game 28 = .ok (.aload_n 0, 1) := by decide +kernel
theorem dX8_game_29 : decode cX8_game 29 = .ok (.getfield 13, 3) := by decide +kernel
theorem dX8_game_32 : decode cX8_game 32 = .ok (.bipush 7, 2) := by decide +kernel
theorem dX8_game_34 : decode cX8_game 34 = .ok (.iload_n 1, 1) := by decide +kernel
theorem dX8_game_35 : decode cX8_game 35 = .ok (.iadd, 1) := by decide +kernel
theorem dX8_game_36 : decode cX8_game 36 = .ok (.bipush 10, 2) := by decide +kernel
theorem dX8_game_38 : decode cX8_game 38 = .ok (.isub, 1) := by decide +kernel
theorem dX8_game_39 : decode cX8_game 39 = .ok (.iaload, 1) := by decide +kernel
theorem dX8_game_40 : decode cX8_game 40 = .ok (.ireturn, 1) := by decide +kernel
theorem dX8_game_41 : decode cX8_game 41 = .ok (.iload_n 1, 1) := by decide +kernel
theorem dX8_game_42 : decode cX8_game 42 = .ok (.lookupswitch 36 #[(7, 26), (8, 31)], 26) := by decide +kernel
theorem dX8_game_68 : decode cX8_game 68 = .ok (.aload_n 0, 1) := by decide +kernel
theorem dX8_game_69 : decode cX8_game 69 = .ok (.invokevirtual 244, 3) := by decide +kernel
theorem dX8_game_72 : decode cX8_game 72 = .ok (.ireturn, 1) := by decide +kernel
theorem dX8_game_73 : decode cX8_game 73 = .ok (.aload_n 0, 1) := by decide +kernel
theorem dX8_game_74 : decode cX8_game 74 = .ok (.invokevirtual 247, 3) := by decide +kernel
theorem dX8_game_77 : decode cX8_game 77 = .ok (.ireturn, 1) := by decide +kernel
theorem dX8_game_78 : decode cX8_game 78 = .ok (.iload_n 1, 1) := by decide +kernel
theorem dX8_game_79 : decode cX8_game 79 = .ok (.iconst 0, 1) := by decide +kernel
theorem dX8_game_80 : decode cX8_game 80 = .ok (.bipush 6, 2) := by decide +kernel
theorem dX8_game_82 : decode cX8_game 82 = .ok (.invokestatic 86, 3) := by decide +kernel
theorem dX8_game_85 : decode cX8_game 85 = .ok (.ifCond .eq 12, 3) := by decide +kernel
theorem dX8_game_88 : decode cX8_game 88 = .ok (.aload_n 0, 1) := by decide +kernel
theorem dX8_game_89 : decode cX8_game 89 = .ok (.getfield 13, 3) := by decide +kernel
theorem dX8_game_92 : decode cX8_game 92 = .ok (.iload_n 1, 1) := by decide +kernel
theorem dX8_game_93 : decode cX8_game 93 = .ok (.iaload, 1) := by decide +kernel
theorem dX8_game_94 : decode cX8_game 94 = .ok (.goto 4, 3) := by decide +kernel
theorem dX8_game_97 : decode cX8_game 97 = .ok (.iconst (-1), 1) := by decide +kernel
theorem dX8_game_98 : decode cX8_game 98 = .ok (.ireturn, 1) := by decide +kernel
theorem dX8_isPlaying_0 : decode cX8_isPlaying 0 = .ok (.aload_n 0, 1) := by decide +kernel
theorem dX8_isPlaying_1 : decode cX8_isPlaying 1 = .ok (.getfield 146, 3) := by decide +kernel
theorem dX8_isPlaying_4 : decode cX8_isPlaying 4 = .ok (.ifCond .eq 14, 3) := by decide +kernel
theorem dX8_isPlaying_7 : decode cX8_isPlaying 7 = .ok (.aload_n 0, 1) := by decide +kernel
theorem dX8_isPlaying_8 : decode cX8_isPlaying 8 = .ok (.getfield 67, 3) := by decide +kernel
theorem dX8_isPlaying_11 : decode cX8_isPlaying 11 = .ok (.ifCond .lt 7, 3) := by decide +kernel
theorem dX8_isPlaying_14 : decode cX8_isPlaying 14 = .ok (.iconst 1, 1) := by decide +kernel
theorem dX8_isPlaying_15 : decode cX8_isPlaying 15 = .ok (.goto 4, 3) := by decide +kernel
theorem dX8_isPlaying_18 : decode cX8_isPlaying 18 = .ok (.iconst 0, 1) := by decide +kernel
theorem dX8_isPlaying_19 : decode cX8_isPlaying 19 = .ok (.ireturn, 1) := by decide +kernel
theorem dX8_here_0 : decode cX8_here 0 = .ok (.aload_n 0, 1) := by decide +kernel
theorem dX8_here_1 : decode cX8_here 1 = .ok (.getfield 71, 3) := by decide +kernel
theorem dX8_here_4 : decode cX8_here 4 = .ok (.aload_n 0, 1) := by decide +kernel
theorem dX8_here_5 : decode cX8_here 5 = .ok (.getfield 67, 3) := by decide +kernel
theorem dX8_here_8 : decode cX8_here 8 = .ok (.iaload, 1) := by decide +kernel
theorem dX8_here_9 : decode cX8_here 9 = .ok (.ireturn, 1) := by decide +kernel
theorem dX8_begin_0 : decode cX8_begin 0 = .ok (.aload_n 0, 1) := by decide +kernel
theorem dX8_begin_1 : decode cX8_begin 1 = .ok (.iconst 0, 1) := by decide +kernel
theorem dX8_begin_2 : decode cX8_begin 2 = .ok (.putfield 67, 3) := by decide +kernel
theorem dX8_begin_5 : decode cX8_begin 5 = .ok (.aload_n 0, 1) := by decide +kernel
theorem dX8_begin_6 : decode cX8_begin 6 = .ok (.getfield 71, 3) := by decide +kernel
theorem dX8_begin_9 : decode cX8_begin 9 = .ok (.iconst 0, 1) := by decide +kernel
theorem dX8_begin_10 : decode cX8_begin 10 = .ok (.iload_n 1, 1) := by decide +kernel
theorem dX8_begin_11 : decode cX8_begin 11 = .ok (.iastore, 1) := by decide +kernel
theorem dX8_begin_12 : decode cX8_begin 12 = .ok (.aload_n 0, 1) := by decide +kernel
theorem dX8_begin_13 : decode cX8_begin 13 = .ok (.getfield 77, 3) := by decide +kernel
theorem dX8_begin_16 : decode cX8_begin 16 = .ok (.iconst 0, 1) := by decide +kernel
theorem dX8_begin_17 : decode cX8_begin 17 = .ok (.iconst 0, 1) := by decide +kernel
theorem dX8_begin_18 : decode cX8_begin 18 = .ok (.bastore, 1) := by decide +kernel
theorem dX8_begin_19 : decode cX8_begin 19 = .ok (.return_, 1) := by decide +kernel
theorem dX8_isPlace_0 : decode cX8_isPlace 0 = .ok (.iload_n 2, 1) := by decide +kernel
theorem dX8_isPlace_1 : decode cX8_isPlace 1 = .ok (.iconst (-1), 1) := by decide +kernel
theorem dX8_isPlace_2 : decode cX8_isPlace 2 = .ok (.iload_n 1, 1) := by decide +kernel
theorem dX8_isPlace_3 : decode cX8_isPlace 3 = .ok (.aload_n 0, 1) := by decide +kernel
theorem dX8_isPlace_4 : decode cX8_isPlace 4 = .ok (.getfield 13, 3) := by decide +kernel
theorem dX8_isPlace_7 : decode cX8_isPlace 7 = .ok (.iconst 2, 1) := by decide +kernel
theorem dX8_isPlace_8 : decode cX8_isPlace 8 = .ok (.iaload, 1) := by decide +kernel
theorem dX8_isPlace_9 : decode cX8_isPlace 9 = .ok (.if_icmp .ge 12, 3) := by decide +kernel
theorem dX8_isPlace_12 : decode cX8_isPlace 12 = .ok (.aload_n 0, 1) := by decide +kernel
theorem dX8_isPlace_13 : decode cX8_isPlace 13 = .ok (.invokevirtual 152, 3) := by decide +kernel
theorem dX8_isPlace_16 : decode cX8_isPlace 16 = .ok (.iconst 1, 1) := by decide +kernel
theorem dX8_isPlace_17 : decode cX8_isPlace 17 = .ok (.isub, 1) := by decide +kernel
theorem dX8_isPlace_18 : decode cX8_isPlace 18 = .ok (.goto 4, 3) := by decide +kernel
theorem dX8_isPlace_21 : decode cX8_isPlace 21 = .ok (.iconst (-1), 1) := by decide +kernel
theorem dX8_isPlace_22 : decode cX8_isPlace 22 = .ok (.invokestatic 86, 3) := by decide +kernel
theorem dX8_isPlace_25 : decode cX8_isPlace 25 = .ok (.ireturn, 1) := by decide +kernel
theorem dX8_setup_0 : decode cX8_setup 0 = .ok (.aload_n 0, 1) := by decide +kernel
theorem dX8_setup_1 : decode cX8_setup 1 = .ok (.getfield 146, 3) := by decide +kernel
theorem dX8_setup_4 : decode cX8_setup 4 = .ok (.ifCond .ne 6, 3) := by decide +kernel
theorem dX8_setup_7 : decode cX8_setup 7 = .ok (.bipush (-3), 2) := by decide +kernel
theorem dX8_setup_9 : decode cX8_setup 9 = .ok (.ireturn, 1) := by decide +kernel
theorem dX8_setup_10 : decode cX8_setup 10 = .ok (.iload 4, 2) := by decide +kernel
theorem dX8_setup_12 : decode cX8_setup 12 = .ok (.iconst 0, 1) := by decide +kernel
theorem dX8_setup_13 : decode cX8_setup 13 = .ok (.iconst 1, 1) := by decide +kernel
theorem dX8_setup_14 : decode cX8_setup 14 = .ok (.invokestatic 86, 3) := by decide +kernel
theorem dX8_setup_17 : decode cX8_setup 17 = .ok (.ifCond .eq 30, 3) := by decide +kernel
theorem dX8_setup_20 : decode cX8_setup 20 = .ok (.aload_n 0, 1) := by decide +kernel
theorem dX8_setup_21 : decode cX8_setup 21 = .ok (.iconst 0, 1) := by decide +kernel
theorem dX8_setup_22 : decode cX8_setup 22 = .ok (.iload_n 1, 1) := by decide +kernel
theorem dX8_setup_23 : decode cX8_setup 23 = .ok (.invokevirtual 250, 3) := by decide +kernel
theorem dX8_setup_26 : decode cX8_setup 26 = .ok (.ifCond .eq 21, 3) := by decide +kernel
theorem dX8_setup_29 : decode cX8_setup 29 = .ok (.aload_n 0, 1) := by decide +kernel
theorem dX8_setup_30 : decode cX8_setup 30 = .ok (.iconst 1, 1) := by decide +kernel
theorem dX8_setup_31 : decode cX8_setup 31 = .ok (.iload_n 2, 1) := by decide +kernel
theorem dX8_setup_32 : decode cX8_setup 32 = .ok (.invokevirtual 250, 3) := by decide +kernel
theorem dX8_setup_35 : decode cX8_setup 35 = .ok (.ifCond .eq 12, 3) := by decide +kernel
theorem dX8_setup_38 : decode cX8_setup 38 = .ok (.aload_n 0, 1) := by decide +kernel
theorem dX8_setup_39 : decode cX8_setup 39 = .ok (.iconst 2, 1) := by decide +kernel
theorem dX8_setup_40 : decode cX8_setup 40 = .ok (.iload_n 3, 1) := by decide +kernel
theorem dX8_setup_41 : decode cX8_setup 41 = .ok (.invokevirtual 250, 3) := by decide +kernel
theorem dX8_setup_44 : decode cX8_setup 44 = .ok (.ifCond .ne 6, 3) := by decide +kernel
theorem dX8_setup_47 : decode cX8_setup 47 = .ok (.bipush (-2), 2) := by decide +kernel
theorem dX8_setup_49 : decode cX8_setup 49 = .ok (.ireturn, 1) := by decide +kernel
theorem dX8_setup_50 : decode cX8_setup 50 = .ok (.aload_n 0, 1) := by decide +kernel
theorem dX8_setup_51 : decode cX8_setup 51 = .ok (.getfield 61, 3) := by decide +kernel
theorem dX8_setup_54 : decode cX8_setup 54 = .ok (.iconst 0, 1) := by decide +kernel
theorem dX8_setup_55 : decode cX8_setup 55 = .ok (.iload_n 1, 1) := by decide +kernel
theorem dX8_setup_56 : decode cX8_setup 56 = .ok (.ifCond .ge 10, 3) := by decide +kernel
theorem dX8_setup_59 : decode cX8_setup 59 = .ok (.aload_n 0, 1) := by decide +kernel
theorem dX8_setup_60 : decode cX8_setup 60 = .ok (.invokevirtual 152, 3) := by decide +kernel
theorem dX8_setup_63 : decode cX8_setup 63 = .ok (.goto 4, 3) := by decide +kernel
theorem dX8_setup_66 : decode cX8_setup 66 = .ok (.iload_n 1, 1) := by decide +kernel
theorem dX8_setup_67 : decode cX8_setup 67 = .ok (.iastore, 1) := by decide +kernel
theorem dX8_setup_68 : decode cX8_setup 68 = .ok (.aload_n 0, 1) := by decide +kernel
theorem dX8_setup_69 : decode cX8_setup 69 = .ok (.getfield 61, 3) := by decide +kernel
theorem dX8_setup_72 : decode cX8_setup 72 = .ok (.iconst 1, 1) := by decide +kernel
theorem dX8_setup_73 : decode cX8_setup 73 = .ok (.iload_n 2, 1) := by decide +kernel
theorem dX8_setup_74 : decode cX8_setup 74 = .ok (.ifCond .ge 10, 3) := by decide +kernel
theorem dX8_setup_77 : decode cX8_setup 77 = .ok (.aload_n 0, 1) := by decide +kernel
theorem dX8_setup_78 : decode cX8_setup 78 = .ok (.invokevirtual 152, 3) := by decide +kernel
theorem dX8_setup_81 : decode cX8_setup 81 = .ok (.goto 4, 3) := by decide +kernel
theorem dX8_setup_84 : decode cX8_setup 84 = .ok (.iload_n 2, 1) := by decide +kernel
theorem dX8_setup_85 : decode cX8_setup 85 = .ok (.iastore, 1) := by decide +kernel
theorem dX8_setup_86 : decode cX8_setup 86 = .ok (.aload_n 0, 1) := by decide +kernel
theorem dX8_setup_87 : decode cX8_setup 87 = .ok (.getfield 61, 3) := by decide +kernel
theorem dX8_setup_90 : decode cX8_setup 90 = .ok (.iconst 2, 1) := by decide +kernel
theorem dX8_setup_91 : decode cX8_setup 91 = .ok (.iload_n 3, 1) := by decide +kernel
theorem dX8_setup_92 : decode cX8_setup 92 = .ok (.ifCond .ge 10, 3) := by decide +kernel
theorem dX8_setup_95 : decode cX8_setup 95 = .ok (.aload_n 0, 1) := by decide +kernel
theorem dX8_setup_96 : decode cX8_setup 96 = .ok (.invokevirtual 152, 3) := by decide +kernel
theorem dX8_setup_99 : decode cX8_setup 99 = .ok (.goto 4, 3) := by decide +kernel
theorem dX8_setup_102 : decode cX8_setup 102 = .ok (.iload_n 3, 1) := by decide +kernel
theorem dX8_setup_103 : decode cX8_setup 103 = .ok (.iastore, 1) := by decide +kernel
theorem dX8_setup_104 : decode cX8_setup 104 = .ok (.aload_n 0, 1) := by decide +kernel
theorem dX8_setup_105 : decode cX8_setup 105 = .ok (.aload_n 0, 1) := by decide +kernel
theorem dX8_setup_106 : decode cX8_setup 106 = .ok (.getfield 61, 3) := by decide +kernel
theorem dX8_setup_109 : decode cX8_setup 109 = .ok (.iload 4, 2) := by decide +kernel
theorem dX8_setup_111 : decode cX8_setup 111 = .ok (.invokevirtual 199, 3) := by decide +kernel
theorem dX8_setup_114 : decode cX8_setup 114 = .ok (.istore 5, 2) := by decide +kernel
theorem dX8_setup_116 : decode cX8_setup 116 = .ok (.aload_n 0, 1) := by decide +kernel
theorem dX8_setup_117 : decode cX8_setup 117 = .ok (.getfield 42, 3) := by decide +kernel
theorem dX8_setup_120 : decode cX8_setup 120 = .ok (.iload 5, 2) := by decide +kernel
theorem dX8_setup_122 : decode cX8_setup 122 = .ok (.baload, 1) := by decide +kernel
theorem dX8_setup_123 : decode cX8_setup 123 = .ok (.ifCond .ne 6, 3) := by decide +kernel
theorem dX8_setup_126 : decode cX8_setup 126 = .ok (.bipush (-5), 2) := by decide +kernel
theorem dX8_setup_128 : decode cX8_setup 128 = .ok (.ireturn, 1) := by decide +kernel
theorem dX8_setup_129 : decode cX8_setup 129 = .ok (.aload_n 0, 1) := by decide +kernel
theorem dX8_setup_130 : decode cX8_setup 130 = .ok (.iload 5, 2) := by decide +kernel
theorem dX8_setup_132 : decode cX8_setup 132 = .ok (.invokevirtual 253, 3) := by decide +kernel
theorem dX8_setup_135 : decode cX8_setup 135 = .ok (.iload 5, 2) := by decide +kernel
theorem dX8_setup_137 : decode cX8_setup 137 = .ok (.ireturn, 1) := by decide +kernel
theorem dX8_load_0 : decode cX8_load 0 = .ok (.aload_n 0, 1) := by decide +kernel
theorem dX8_load_1 : decode cX8_load 1 = .ok (.getfield 146, 3) := by decide +kernel
theorem dX8_load_4 : decode cX8_load 4 = .ok (.ifCond .ne 6, 3) := by decide +kernel
theorem dX8_load_7 : decode cX8_load 7 = .ok (.bipush (-3), 2) := by decide +kernel
theorem dX8_load_9 : decode cX8_load 9 = .ok (.ireturn, 1) := by decide +kernel
theorem dX8_load_10 : decode cX8_load 10 = .ok (.iload_n 1, 1) := by decide +kernel
theorem dX8_load_11 : decode cX8_load 11 = .ok (.iconst 0, 1) := by decide +kernel
theorem dX8_load_12 : decode cX8_load 12 = .ok (.aload_n 0, 1) := by decide +kernel
theorem dX8_load_13 : decode cX8_load 13 = .ok (.getfield 213, 3) := by decide +kernel
theorem dX8_load_16 : decode cX8_load 16 = .ok (.iconst 1, 1) := by decide +kernel
theorem dX8_load_17 : decode cX8_load 17 = .ok (.isub, 1) := by decide +kernel
theorem dX8_load_18 : decode cX8_load 18 = .ok (.invokestatic 86, 3) := by decide +kernel
theorem dX8_load_21 : decode cX8_load 21 = .ok (.ifCond .eq 12, 3) := by decide +kernel
theorem dX8_load_24 : decode cX8_load 24 = .ok (.aload_n 0, 1) := by decide +kernel
theorem dX8_load_25 : decode cX8_load 25 = .ok (.getfield 42, 3) := by decide +kernel
theorem dX8_load_28 : decode cX8_load 28 = .ok (.iload_n 1, 1) := by decide +kernel
theorem dX8_load_29 : decode cX8_load 29 = .ok (.baload, 1) := by decide +kernel
theorem dX8_load_30 : decode cX8_load 30 = .ok (.ifCond .ne 6, 3) := by decide +kernel
theorem dX8_load_33 : decode cX8_load 33 = .ok (.bipush (-5), 2) := by decide +kernel
theorem dX8_load_35 : decode cX8_load 35 = .ok (.ireturn, 1) := by decide +kernel
theorem dX8_load_36 : decode cX8_load 36 = .ok (.aload_n 0, 1) := by decide +kernel
theorem dX8_load_37 : decode cX8_load 37 = .ok (.iload_n 1, 1) := by decide +kernel
theorem dX8_load_38 : decode cX8_load 38 = .ok (.invokevirtual 253, 3) := by decide +kernel
theorem dX8_load_41 : decode cX8_load 41 = .ok (.iload_n 1, 1) := by decide +kernel
theorem dX8_load_42 : decode cX8_load 42 = .ok (.iconst 2, 1) := by decide +kernel
theorem dX8_load_43 : decode cX8_load 43 = .ok (.irem, 1) := by decide +kernel
theorem dX8_load_44 : decode cX8_load 44 = .ok (.ireturn, 1) := by decide +kernel
theorem dX8_board_0 : decode cX8_board 0 = .ok (.aload_n 0, 1) := by decide +kernel
theorem dX8_board_1 : decode cX8_board 1 = .ok (.invokevirtual 257, 3) := by decide +kernel
theorem dX8_board_4 : decode cX8_board 4 = .ok (.ifCond .ne 6, 3) := by decide +kernel
theorem dX8_board_7 : decode cX8_board 7 = .ok (.bipush (-3), 2) := by decide +kernel
theorem dX8_board_9 : decode cX8_board 9 = .ok (.ireturn, 1) := by decide +kernel
theorem dX8_board_10 : decode cX8_board 10 = .ok (.aload_n 0, 1) := by decide +kernel
theorem dX8_board_11 : decode cX8_board 11 = .ok (.invokevirtual 260, 3) := by decide +kernel
theorem dX8_board_14 : decode cX8_board 14 = .ok (.istore_n 2, 1) := by decide +kernel
theorem dX8_board_15 : decode cX8_board 15 = .ok (.aload_n 0, 1) := by decide +kernel
theorem dX8_board_16 : decode cX8_board 16 = .ok (.iconst 0, 1) := by decide +kernel
theorem dX8_board_17 : decode cX8_board 17 = .ok (.iload_n 2, 1) := by decide +kernel
theorem dX8_board_18 : decode cX8_board 18 = .ok (.invokevirtual 209, 3) := by decide +kernel
theorem dX8_board_21 : decode cX8_board 21 = .ok (.iload_n 1, 1) := by decide +kernel
theorem dX8_board_22 : decode cX8_board 22 = .ok (.bipush 10, 2) := by decide +kernel
theorem dX8_board_24 : decode cX8_board 24 = .ok (.bipush 9, 2) := by decide +kernel
theorem dX8_board_26 : decode cX8_board 26 = .ok (.aload_n 0, 1) := by decide +kernel
theorem dX8_board_27 : decode cX8_board 27 = .ok (.getfield 13, 3) := by decide +kernel
theorem dX8_board_30 : decode cX8_board 30 = .ok (.iconst 2, 1) := by decide +kernel
theorem dX8_board_31 : decode cX8_board 31 = .ok (.iaload, 1) := by decide +kernel
theorem dX8_board_32 : decode cX8_board 32 = .ok (.iadd, 1) := by decide +kernel
theorem dX8_board_33 : decode cX8_board 33 = .ok (.invokestatic 86, 3) := by decide +kernel
theorem dX8_board_36 : decode cX8_board 36 = .ok (.ifCond .eq 38, 3) := by decide +kernel
theorem dX8_board_39 : decode cX8_board 39 = .ok (.aload_n 0, 1) := by decide +kernel
theorem dX8_board_40 : decode cX8_board 40 = .ok (.getfield 24, 3) := by decide +kernel
theorem dX8_board_43 : decode cX8_board 43 = .ok (.iconst 0, 1) := by decide +kernel
theorem dX8_board_44 : decode cX8_board 44 = .ok (.aaload, 1) := by decide +kernel
theorem dX8_board_45 : decode cX8_board 45 = .ok (.iload_n 1, 1) := by decide +kernel
theorem dX8_board_46 : decode cX8_board 46 = .ok (.bipush 10, 2) := by decide +kernel
theorem dX8_board_48 : decode cX8_board 48 = .ok (.isub, 1) := by decide +kernel
theorem dX8_board_49 : decode cX8_board 49 = .ok (.iaload, 1) := by decide +kernel
theorem dX8_board_50 : decode cX8_board 50 = .ok (.aload_n 0, 1) := by decide +kernel
theorem dX8_board_51 : decode cX8_board 51 = .ok (.invokevirtual 152, 3) := by decide +kernel
theorem dX8_board_54 : decode cX8_board 54 = .ok (.if_icmp .ge 17, 3) := by decide +kernel
theorem dX8_board_57 : decode cX8_board 57 = .ok (.aload_n 0, 1) := by decide +kernel
theorem dX8_board_58 : decode cX8_board 58 = .ok (.getfield 24, 3) := by decide +kernel
theorem dX8_board_61 : decode cX8_board 61 = .ok (.iconst 0, 1) := by decide +kernel
theorem dX8_board_62 : decode cX8_board 62 = .ok (.aaload, 1) := by decide +kernel
theorem dX8_board_63 : decode cX8_board 63 = .ok (.iload_n 1, 1) := by decide +kernel
theorem dX8_board_64 : decode cX8_board 64 = .ok (.bipush 10, 2) := by decide +kernel
theorem dX8_board_66 : decode cX8_board 66 = .ok (.isub, 1) := by decide +kernel
theorem dX8_board_67 : decode cX8_board 67 = .ok (.iaload, 1) := by decide +kernel
theorem dX8_board_68 : decode cX8_board 68 = .ok (.goto 5, 3) := by decide +kernel
theorem dX8_board_71 : decode cX8_board 71 = .ok (.bipush (-5), 2) := by decide +kernel
theorem dX8_board_73 : decode cX8_board 73 = .ok (.ireturn, 1) := by decide +kernel
theorem dX8_board_74 : decode cX8_board 74 = .ok (.iload_n 1, 1) := by decide +kernel
theorem dX8_board_75 : decode cX8_board 75 = .ok (.tableswitch 127 0 9 #[53, 55, 59, 66, 73, 80, 86, 108, 115, 121], 53) := by decide +kernel
theorem dX8_board_128 : decode cX8_board 128 = .ok (.iload_n 2, 1) := by decide +kernel
theorem dX8_board_129 : decode cX8_board 129 = .ok (.ireturn, 1) := by decide +kernel
theorem dX8_board_130 : decode cX8_board 130 = .ok (.iload_n 2, 1) := by decide +kernel
theorem dX8_board_131 : decode cX8_board 131 = .ok (.iconst 2, 1) := by decide +kernel
theorem dX8_board_132 : decode cX8_board 132 = .ok (.irem, 1) := by decide +kernel
theorem dX8_board_133 : decode cX8_board 133 = .ok (.ireturn, 1) := by decide +kernel
theorem dX8_board_134 : decode cX8_board 134 = .ok (.aload_n 0, 1) := by decide +kernel
theorem dX8_board_135 : decode cX8_board 135 = .ok (.getfield 52, 3) := by decide +kernel
theorem dX8_board_138 : decode cX8_board 138 = .ok (.iload_n 2, 1) := by decide +kernel
theorem dX8_board_139 : decode cX8_board 139 = .ok (.iaload, 1) := by decide +kernel
theorem dX8_board_140 : decode cX8_board 140 = .ok (.ireturn, 1) := by decide +kernel
theorem dX8_board_141 : decode cX8_board 141 = .ok (.aload_n 0, 1) := by decide +kernel
theorem dX8_board_142 : decode cX8_board 142 = .ok (.getfield 55, 3) := by decide +kernel
theorem dX8_board_145 : decode cX8_board 145 = .ok (.iload_n 2, 1) := by decide +kernel
theorem dX8_board_146 : decode cX8_board 146 = .ok (.iaload, 1) := by decide +kernel
theorem dX8_board_147 : decode cX8_board 147 = .ok (.ireturn, 1) := by decide +kernel
theorem dX8_board_148 : decode cX8_board 148 = .ok (.aload_n 0, 1) := by decide +kernel
theorem dX8_board_149 : decode cX8_board 149 = .ok (.getfield 58, 3) := by decide +kernel
theorem dX8_board_152 : decode cX8_board 152 = .ok (.iload_n 2, 1) := by decide +kernel
theorem dX8_board_153 : decode cX8_board 153 = .ok (.iaload, 1) := by decide +kernel
theorem dX8_board_154 : decode cX8_board 154 = .ok (.ireturn, 1) := by decide +kernel
theorem dX8_board_155 : decode cX8_board 155 = .ok (.aload_n 0, 1) := by decide +kernel
theorem dX8_board_156 : decode cX8_board 156 = .ok (.iload_n 2, 1) := by decide +kernel
theorem dX8_board_157 : decode cX8_board 157 = .ok (.invokevirtual 263, 3) := by decide +kernel
theorem dX8_board_160 : decode cX8_board 160 = .ok (.ireturn, 1) := by decide +kernel
theorem dX8_board_161 : decode cX8_board 161 = .ok (.aload_n 0, 1) := by decide +kernel
theorem dX8_board_162 : decode cX8_board 162 = .ok (.aload_n 0, 1) := by decide +kernel
theorem dX8_board_163 : decode cX8_board 163 = .ok (.getfield 24, 3) := by decide +kernel
theorem dX8_board_166 : decode cX8_board 166 = .ok (.iconst 0, 1) := by decide +kernel
theorem dX8_board_167 : decode cX8_board 167 = .ok (.aaload, 1) := by decide +kernel
theorem dX8_board_168 : decode cX8_board 168 = .ok (.iload_n 2, 1) := by decide +kernel
theorem dX8_board_169 : decode cX8_board 169 = .ok (.iconst 2, 1) := by decide +kernel
theorem dX8_board_170 : decode cX8_board 170 = .ok (.irem, 1) := by decide +kernel
theorem dX8_board_171 : decode cX8_board 171 = .ok (.invokevirtual 191, 3) := by decide +kernel
theorem dX8_board_174 : decode cX8_board 174 = .ok (.ifCond .eq 7, 3) := by decide +kernel
theorem dX8_board_177 : decode cX8_board 177 = .ok (.iconst 1, 1) := by decide +kernel
theorem dX8_board_178 : decode cX8_board 178 = .ok (.goto 4, 3) := by decide +kernel
theorem dX8_board_181 : decode cX8_board 181 = .ok (.iconst 0, 1) := by decide +kernel
theorem dX8_board_182 : decode cX8_board 182 = .ok (.ireturn, 1) := by decide +kernel
theorem dX8_board_183 : decode cX8_board 183 = .ok (.aload_n 0, 1) := by decide +kernel
theorem dX8_board_184 : decode cX8_board 184 = .ok (.getfield 27, 3) := by decide +kernel
theorem dX8_board_187 : decode cX8_board 187 = .ok (.iconst 0, 1) := by decide +kernel
theorem dX8_board_188 : decode cX8_board 188 = .ok (.iaload, 1) := by decide +kernel
theorem dX8_board_189 : decode cX8_board 189 = .ok (.ireturn, 1) := by decide +kernel
theorem dX8_board_190 : decode cX8_board 190 = .ok (.aload_n 0, 1) := by decide +kernel
theorem dX8_board_191 : decode cX8_board 191 = .ok (.iload_n 2, 1) := by decide +kernel
theorem dX8_board_192 : decode cX8_board 192 = .ok (.invokevirtual 266, 3) := by decide +kernel
theorem dX8_board_195 : decode cX8_board 195 = .ok (.ireturn, 1) := by decide +kernel
theorem dX8_board_196 : decode cX8_board 196 = .ok (.aload_n 0, 1) := by decide +kernel
theorem dX8_board_197 : decode cX8_board 197 = .ok (.iload_n 2, 1) := by decide +kernel
theorem dX8_board_198 : decode cX8_board 198 = .ok (.invokevirtual 269, 3) := by decide +kernel
theorem dX8_board_201 : decode cX8_board 201 = .ok (.ireturn, 1) := by decide +kernel
theorem dX8_board_202 : decode cX8_board 202 = .ok (.iconst (-1), 1) := by decide +kernel
theorem dX8_board_203 : decode cX8_board 203 = .ok (.ireturn, 1) := by decide +kernel
theorem dX8_move_0 : decode cX8_move 0 = .ok (.aload_n 0, 1) := by decide +kernel
theorem dX8_move_1 : decode cX8_move 1 = .ok (.invokevirtual 257, 3) := by decide +kernel
theorem dX8_move_4 : decode cX8_move 4 = .ok (.ifCond .ne 6, 3) := by decide +kernel
theorem dX8_move_7 : decode cX8_move 7 = .ok (.bipush (-3), 2) := by decide +kernel
theorem dX8_move_9 : decode cX8_move 9 = .ok (.ireturn, 1) := by decide +kernel
theorem dX8_move_10 : decode cX8_move 10 = .ok (.aload_n 0, 1) := by decide +kernel
theorem dX8_move_11 : decode cX8_move 11 = .ok (.iconst 0, 1) := by decide +kernel
theorem dX8_move_12 : decode cX8_move 12 = .ok (.aload_n 0, 1) := by decide +kernel
theorem dX8_move_13 : decode cX8_move 13 = .ok (.invokevirtual 260, 3) := by decide +kernel
theorem dX8_move_16 : decode cX8_move 16 = .ok (.invokevirtual 209, 3) := by decide +kernel
theorem dX8_move_19 : decode cX8_move 19 = .ok (.iload_n 1, 1) := by decide +kernel
theorem dX8_move_20 : decode cX8_move 20 = .ok (.iconst 0, 1) := by decide +kernel
theorem dX8_move_21 : decode cX8_move 21 = .ok (.aload_n 0, 1) := by decide +kernel
theorem dX8_move_22 : decode cX8_move 22 = .ok (.getfield 27, 3) := by decide +kernel
theorem dX8_move_25 : decode cX8_move 25 = .ok (.iconst 0, 1) := by decide +kernel
theorem dX8_move_26 : decode cX8_move 26 = .ok (.iaload, 1) := by decide +kernel
theorem dX8_move_27 : decode cX8_move 27 = .ok (.iconst 1, 1) := by decide +kernel
theorem dX8_move_28 : decode cX8_move 28 = .ok (.isub, 1) := by decide +kernel
theorem dX8_move_29 : decode cX8_move 29 = .ok (.invokestatic 86, 3) := by decide +kernel
theorem dX8_move_32 : decode cX8_move 32 = .ok (.ifCond .ne 5, 3) := by decide +kernel
theorem dX8_move_35 : decode cX8_move 35 = .ok (.iconst (-1), 1) := by decide +kernel
theorem dX8_move_36 : decode cX8_move 36 = .ok (.ireturn, 1) := by decide +kernel
theorem dX8_move_37 : decode cX8_move 37 = .ok (.aload_n 0, 1) := by decide +kernel
theorem dX8_move_38 : decode cX8_move 38 = .ok (.getfield 39, 3) := by decide +kernel
theorem dX8_move_41 : decode cX8_move 41 = .ok (.iconst 0, 1) := by decide +kernel
theorem dX8_move_42 : decode cX8_move 42 = .ok (.aaload, 1) := by decide +kernel
theorem dX8_move_43 : decode cX8_move 43 = .ok (.iload_n 1, 1) := by decide +kernel
theorem dX8_move_44 : decode cX8_move 44 = .ok (.iaload, 1) := by decide +kernel
theorem dX8_move_45 : decode cX8_move 45 = .ok (.istore_n 3, 1) := by decide +kernel
theorem dX8_move_46 : decode cX8_move 46 = .ok (.iload_n 2, 1) := by decide +kernel
theorem dX8_move_47 : decode cX8_move 47 = .ok (.tableswitch 91 0 6 #[41, 50, 59, 68, 75, 82, 89], 41) := by decide +kernel
theorem dX8_move_88 : decode cX8_move 88 = .ok (.aload_n 0, 1) := by decide +kernel
theorem dX8_move_89 : decode cX8_move 89 = .ok (.getfield 30, 3) := by decide +kernel
theorem dX8_move_92 : decode cX8_move 92 = .ok (.iconst 0, 1) := by decide +kernel
theorem dX8_move_93 : decode cX8_move 93 = .ok (.aaload, 1) := by decide +kernel
theorem dX8_move_94 : decode cX8_move 94 = .ok (.iload_n 1, 1) := by decide +kernel
theorem dX8_move_95 : decode cX8_move 95 = .ok (.iaload, 1) := by decide +kernel
theorem dX8_move_96 : decode cX8_move 96 = .ok (.ireturn, 1) := by decide +kernel
theorem dX8_move_97 : decode cX8_move 97 = .ok (.aload_n 0, 1) := by decide +kernel
theorem dX8_move_98 : decode cX8_move 98 = .ok (.getfield 33, 3) := by decide +kernel
theorem dX8_move_101 : decode cX8_move 101 = .ok (.iconst 0, 1) := by decide +kernel
theorem dX8_move_102 : decode cX8_move 102 = .ok (.aaload, 1) := by decide +kernel
theorem dX8_move_103 : decode cX8_move 103 = .ok (.iload_n 1, 1) := by decide +kernel
theorem dX8_move_104 : decode cX8_move 104 = .ok (.iaload, 1) := by decide +kernel
theorem dX8_move_105 : decode cX8_move 105 = .ok (.ireturn, 1) := by decide +kernel
theorem dX8_move_106 : decode cX8_move 106 = .ok (.aload_n 0, 1) := by decide +kernel
theorem dX8_move_107 : decode cX8_move 107 = .ok (.getfield 36, 3) := by decide +kernel
theorem dX8_move_110 : decode cX8_move 110 = .ok (.iconst 0, 1) := by decide +kernel
theorem dX8_move_111 : decode cX8_move 111 = .ok (.aaload, 1) := by decide +kernel
theorem dX8_move_112 : decode cX8_move 112 = .ok (.iload_n 1, 1) := by decide +kernel
theorem dX8_move_113 : decode cX8_move 113 = .ok (.iaload, 1) := by decide +kernel
theorem dX8_move_114 : decode cX8_move 114 = .ok (.ireturn, 1) := by decide +kernel
theorem dX8_move_115 : decode cX8_move 115 = .ok (.aload_n 0, 1) := by decide +kernel
theorem dX8_move_116 : decode cX8_move 116 = .ok (.getfield 52, 3) := by decide +kernel
theorem dX8_move_119 : decode cX8_move 119 = .ok (.iload_n 3, 1) := by decide +kernel
theorem dX8_move_120 : decode cX8_move 120 = .ok (.iaload, 1) := by decide +kernel
theorem dX8_move_121 : decode cX8_move 121 = .ok (.ireturn, 1) := by decide +kernel
theorem dX8_move_122 : decode cX8_move 122 = .ok (.aload_n 0, 1) := by decide +kernel
theorem dX8_move_123 : decode cX8_move 123 = .ok (.getfield 55, 3) := by decide +kernel
theorem dX8_move_126 : decode cX8_move 126 = .ok (.iload_n 3, 1) := by decide +kernel
theorem dX8_move_127 : decode cX8_move 127 = .ok (.iaload, 1) := by decide +kernel
theorem dX8_move_128 : decode cX8_move 128 = .ok (.ireturn, 1) := by decide +kernel
theorem dX8_move_129 : decode cX8_move 129 = .ok (.aload_n 0, 1) := by decide +kernel
theorem dX8_move_130 : decode cX8_move 130 = .ok (.getfield 58, 3) := by decide +kernel
theorem dX8_move_133 : decode cX8_move 133 = .ok (.iload_n 3, 1) := by decide +kernel
theorem dX8_move_134 : decode cX8_move 134 = .ok (.iaload, 1) := by decide +kernel
theorem dX8_move_135 : decode cX8_move 135 = .ok (.ireturn, 1) := by decide +kernel
theorem dX8_move_136 : decode cX8_move 136 = .ok (.iload_n 3, 1) := by decide +kernel
theorem dX8_move_137 : decode cX8_move 137 = .ok (.ireturn, 1) := by decide +kernel
theorem dX8_move_138 : decode cX8_move 138 = .ok (.iconst (-1), 1) := by decide +kernel
theorem dX8_move_139 : decode cX8_move 139 = .ok (.ireturn, 1) := by decide +kernel
theorem dX8_occurrences_0 : decode cX8_occurrences 0 = .ok (.iconst 0, 1) := by decide +kernel
theorem dX8_occurrences_1 : decode cX8_occurrences 1 = .ok (.istore_n 1, 1) := by decide +kernel
theorem dX8_occurrences_2 : decode cX8_occurrences 2 = .ok (.iconst 0, 1) := by decide +kernel
theorem dX8_occurrences_3 : decode cX8_occurrences 3 = .ok (.istore_n 2, 1) := by decide +kernel
theorem dX8_occurrences_4 : decode cX8_occurrences 4 = .ok (.iload_n 2, 1) := by decide +kernel
theorem dX8_occurrences_5 : decode cX8_occurrences 5 = .ok (.aload_n 0, 1) := by decide +kernel
theorem dX8_occurrences_6 : decode cX8_occurrences 6 = .ok (.getfield 67, 3) := by decide +kernel
theorem dX8_occurrences_9 : decode cX8_occurrences 9 = .ok (.if_icmp .gt 30, 3) := by decide +kernel
theorem dX8_occurrences_12 : decode cX8_occurrences 12 = .ok (.iload_n 1, 1) := by decide +kernel
theorem dX8_occurrences_13 : decode cX8_occurrences 13 = .ok (.aload_n 0, 1) := by decide +kernel
theorem dX8_occurrences_14 : decode cX8_occurrences 14 = .ok (.getfield 71, 3) := by decide +kernel
theorem dX8_occurrences_17 : decode cX8_occurrences 17 = .ok (.iload_n 2, 1) := by decide +kernel
theorem dX8_occurrences_18 : decode cX8_occurrences 18 = .ok (.iaload, 1) := by decide +kernel
theorem dX8_occurrences_19 : decode cX8_occurrences 19 = .ok (.aload_n 0, 1) := by decide +kernel
theorem dX8_occurrences_20 : decode cX8_occurrences 20 = .ok (.invokevirtual 260, 3) := by decide +kernel
theorem dX8_occurrences_23 : decode cX8_occurrences 23 = .ok (.if_icmp .ne 7, 3) := by decide +kernel
theorem dX8_occurrences_26 : decode cX8_occurrences 26 = .ok (.iconst 1, 1) := by decide +kernel
theorem dX8_occurrences_27 : decode cX8_occurrences 27 = .ok (.goto 4, 3) := by decide +kernel
theorem dX8_occurrences_30 : decode cX8_occurrences 30 = .ok (.iconst 0, 1) := by decide +kernel
theorem dX8_occurrences_31 : decode cX8_occurrences 31 = .ok (.iadd, 1) := by decide +kernel
theorem dX8_occurrences_32 : decode cX8_occurrences 32 = .ok (.istore_n 1, 1) := by decide +kernel
theorem dX8_occurrences_33 : decode cX8_occurrences 33 = .ok (.iinc 2 1, 3) := by decide +kernel
theorem dX8_occurrences_36 : decode cX8_occurrences 36 = .ok (.goto (-32), 3) := by decide +kernel
theorem dX8_occurrences_39 : decode cX8_occurrences 39 = .ok (.iload_n 1, 1) := by decide +kernel
theorem dX8_occurrences_40 : decode cX8_occurrences 40 = .ok (.ireturn, 1) := by decide +kernel
theorem dX8_make_0 : decode cX8_make 0 = .ok (.aload_n 0, 1) := by decide +kernel
theorem dX8_make_1 : decode cX8_make 1 = .ok (.invokevirtual 257, 3) := by decide +kernel
theorem dX8_make_4 : decode cX8_make 4 = .ok (.ifCond .ne 6, 3) := by decide +kernel
theorem dX8_make_7 : decode cX8_make 7 = .ok (.bipush (-3), 2) := by decide +kernel
theorem dX8_make_9 : decode cX8_make 9 = .ok (.ireturn, 1) := by decide +kernel
theorem dX8_make_10 : decode cX8_make 10 = .ok (.aload_n 0, 1) := by decide +kernel
theorem dX8_make_11 : decode cX8_make 11 = .ok (.iconst 0, 1) := by decide +kernel
theorem dX8_make_12 : decode cX8_make 12 = .ok (.aload_n 0, 1) := by decide +kernel
theorem dX8_make_13 : decode cX8_make 13 = .ok (.invokevirtual 260, 3) := by decide +kernel
theorem dX8_make_16 : decode cX8_make 16 = .ok (.invokevirtual 209, 3) := by decide +kernel
theorem dX8_make_19 : decode cX8_make 19 = .ok (.iload_n 1, 1) := by decide +kernel
theorem dX8_make_20 : decode cX8_make 20 = .ok (.iconst 0, 1) := by decide +kernel
theorem dX8_make_21 : decode cX8_make 21 = .ok (.aload_n 0, 1) := by decide +kernel
theorem dX8_make_22 : decode cX8_make 22 = .ok (.getfield 27, 3) := by decide +kernel
theorem dX8_make_25 : decode cX8_make 25 = .ok (.iconst 0, 1) := by decide +kernel
theorem dX8_make_26 : decode cX8_make 26 = .ok (.iaload, 1) := by decide +kernel
theorem dX8_make_27 : decode cX8_make 27 = .ok (.iconst 1, 1) := by decide +kernel
theorem dX8_make_28 : decode cX8_make 28 = .ok (.isub, 1) := by decide +kernel
theorem dX8_make_29 : decode cX8_make 29 = .ok (.invokestatic 86, 3) := by decide +kernel
theorem dX8_make_32 : decode cX8_make 32 = .ok (.ifCond .ne 5, 3) := by decide +kernel
theorem dX8_make_35 : decode cX8_make 35 = .ok (.iconst (-1), 1) := by decide +kernel
theorem dX8_make_36 : decode cX8_make 36 = .ok (.ireturn, 1) := by decide +kernel
theorem dX8_make_37 : decode cX8_make 37 = .ok (.aload_n 0, 1) := by decide +kernel
theorem dX8_make_38 : decode cX8_make 38 = .ok (.getfield 67, 3) := by decide +kernel
theorem dX8_make_41 : decode cX8_make 41 = .ok (.bipush 40, 2) := by decide +kernel
theorem dX8_make_43 : decode cX8_make 43 = .ok (.if_icmp .ne 6, 3) := by decide +kernel
theorem dX8_make_46 : decode cX8_make 46 = .ok (.bipush (-4), 2) := by decide +kernel
theorem dX8_make_48 : decode cX8_make 48 = .ok (.ireturn, 1) := by decide +kernel
theorem dX8_make_49 : decode cX8_make 49 = .ok (.aload_n 0, 1) := by decide +kernel
theorem dX8_make_50 : decode cX8_make 50 = .ok (.dup, 1) := by decide +kernel
theorem dX8_make_51 : decode cX8_make 51 = .ok (.getfield 67, 3) := by decide +kernel
theorem dX8_make_54 : decode cX8_make 54 = .ok (.iconst 1, 1) := by decide +kernel
theorem dX8_make_55 : decode cX8_make 55 = .ok (.iadd, 1) := by decide +kernel
theorem dX8_make_56 : decode cX8_make 56 = .ok (.putfield 67, 3) := by decide +kernel
theorem dX8_make_59 : decode cX8_make 59 = .ok (.aload_n 0, 1) := by decide +kernel
theorem dX8_make_60 : decode cX8_make 60 = .ok (.getfield 71, 3) := by decide +kernel
theorem dX8_make_63 : decode cX8_make 63 = .ok (.aload_n 0, 1) := by decide +kernel
theorem dX8_make_64 : decode cX8_make 64 = .ok (.getfield 67, 3) := by decide +kernel
theorem dX8_make_67 : decode cX8_make 67 = .ok (.aload_n 0, 1) := by decide +kernel
theorem dX8_make_68 : decode cX8_make 68 = .ok (.getfield 39, 3) := by decide +kernel
theorem dX8_make_71 : decode cX8_make 71 = .ok (.iconst 0, 1) := by decide +kernel
theorem dX8_make_72 : decode cX8_make 72 = .ok (.aaload, 1) := by decide +kernel
theorem dX8_make_73 : decode cX8_make 73 = .ok (.iload_n 1, 1) := by decide +kernel
theorem dX8_make_74 : decode cX8_make 74 = .ok (.iaload, 1) := by decide +kernel
theorem dX8_make_75 : decode cX8_make 75 = .ok (.iastore, 1) := by decide +kernel
theorem dX8_make_76 : decode cX8_make 76 = .ok (.aload_n 0, 1) := by decide +kernel
theorem dX8_make_77 : decode cX8_make 77 = .ok (.getfield 77, 3) := by decide +kernel
theorem dX8_make_80 : decode cX8_make 80 = .ok (.aload_n 0, 1) := by decide +kernel
theorem dX8_make_81 : decode cX8_make 81 = .ok (.getfield 67, 3) := by decide +kernel
theorem dX8_make_84 : decode cX8_make 84 = .ok (.aload_n 0, 1) := by decide +kernel
theorem dX8_make_85 : decode cX8_make 85 = .ok (.getfield 36, 3) := by decide +kernel
theorem dX8_make_88 : decode cX8_make 88 = .ok (.iconst 0, 1) := by decide +kernel
theorem dX8_make_89 : decode cX8_make 89 = .ok (.aaload, 1) := by decide +kernel
theorem dX8_make_90 : decode cX8_make 90 = .ok (.iload_n 1, 1) := by decide +kernel
theorem dX8_make_91 : decode cX8_make 91 = .ok (.iaload, 1) := by decide +kernel
theorem dX8_make_92 : decode cX8_make 92 = .ok (.ifCond .lt 7, 3) := by decide +kernel
theorem dX8_make_95 : decode cX8_make 95 = .ok (.iconst 1, 1) := by decide +kernel
theorem dX8_make_96 : decode cX8_make 96 = .ok (.goto 4, 3) := by decide +kernel
theorem dX8_make_99 : decode cX8_make 99 = .ok (.iconst 0, 1) := by decide +kernel
theorem dX8_make_100 : decode cX8_make 100 = .ok (.bastore, 1) := by decide +kernel
theorem dX8_make_101 : decode cX8_make 101 = .ok (.aload_n 0, 1) := by decide +kernel
theorem dX8_make_102 : decode cX8_make 102 = .ok (.invokevirtual 272, 3) := by decide +kernel
theorem dX8_make_105 : decode cX8_make 105 = .ok (.ireturn, 1) := by decide +kernel
theorem dX8_back_0 : decode cX8_back 0 = .ok (.aload_n 0, 1) := by decide +kernel
theorem dX8_back_1 : decode cX8_back 1 = .ok (.invokevirtual 257, 3) := by decide +kernel
theorem dX8_back_4 : decode cX8_back 4 = .ok (.ifCond .eq 10, 3) := by decide +kernel
theorem dX8_back_7 : decode cX8_back 7 = .ok (.aload_n 0, 1) := by decide +kernel
theorem dX8_back_8 : decode cX8_back 8 = .ok (.getfield 67, 3) := by decide +kernel
theorem dX8_back_11 : decode cX8_back 11 = .ok (.ifCond .ne 6, 3) := by decide +kernel
theorem dX8_back_14 : decode cX8_back 14 = .ok (.bipush (-3), 2) := by decide +kernel
theorem dX8_back_16 : decode cX8_back 16 = .ok (.ireturn, 1) := by decide +kernel
theorem dX8_back_17 : decode cX8_back 17 = .ok (.aload_n 0, 1) := by decide +kernel
theorem dX8_back_18 : decode cX8_back 18 = .ok (.dup, 1) := by decide +kernel
theorem dX8_back_19 : decode cX8_back 19 = .ok (.getfield 67, 3) := by decide +kernel
theorem dX8_back_22 : decode cX8_back 22 = .ok (.iconst 1, 1) := by decide +kernel
theorem dX8_back_23 : decode cX8_back 23 = .ok (.isub, 1) := by decide +kernel
theorem dX8_back_24 : decode cX8_back 24 = .ok (.putfield 67, 3) := by decide +kernel
theorem dX8_back_27 : decode cX8_back 27 = .ok (.aload_n 0, 1) := by decide +kernel
theorem dX8_back_28 : decode cX8_back 28 = .ok (.getfield 67, 3) := by decide +kernel
theorem dX8_back_31 : decode cX8_back 31 = .ok (.ireturn, 1) := by decide +kernel
theorem dX8_bestOf_0 : decode cX8_bestOf 0 = .ok (.aload_n 0, 1) := by decide +kernel
theorem dX8_bestOf_1 : decode cX8_bestOf 1 = .ok (.iconst 0, 1) := by decide +kernel
theorem dX8_bestOf_2 : decode cX8_bestOf 2 = .ok (.iload_n 1, 1) := by decide +kernel
theorem dX8_bestOf_3 : decode cX8_bestOf 3 = .ok (.invokevirtual 209, 3) := by decide +kernel
theorem dX8_bestOf_6 : decode cX8_bestOf 6 = .ok (.bipush (-5), 2) := by decide +kernel
theorem dX8_bestOf_8 : decode cX8_bestOf 8 = .ok (.istore_n 2, 1) := by decide +kernel
theorem dX8_bestOf_9 : decode cX8_bestOf 9 = .ok (.iconst 0, 1) := by decide +kernel
theorem dX8_bestOf_10 : decode cX8_bestOf 10 = .ok (.istore_n 3, 1) := by decide +kernel
theorem dX8_bestOf_11 : decode cX8_bestOf 11 = .ok (.iload_n 3, 1) := by decide +kernel
theorem dX8_bestOf_12 : decode cX8_bestOf 12 = .ok (.aload_n 0, 1) := by decide +kernel
theorem dX8_bestOf_13 : decode cX8_bestOf 13 = .ok (.getfield 27, 3) := by decide +kernel
theorem dX8_bestOf_16 : decode cX8_bestOf 16 = .ok (.iconst 0, 1) := by decide +kernel
theorem dX8_bestOf_17 : decode cX8_bestOf 17 = .ok (.iaload, 1) := by decide +kernel
theorem dX8_bestOf_18 : decode cX8_bestOf 18 = .ok (.if_icmp .ge 137, 3) := by decide +kernel
theorem dX8_bestOf_21 : decode cX8_bestOf 21 = .ok (.aload_n 0, 1) := by decide +kernel
theorem dX8_bestOf_22 : decode cX8_bestOf 22 = .ok (.getfield 39, 3) := by decide +kernel
theorem dX8_bestOf_25 : decode cX8_bestOf 25 = .ok (.iconst 0, 1) := by decide +kernel
theorem dX8_bestOf_26 : decode cX8_bestOf 26 = .ok (.aaload, 1) := by decide +kernel
theorem dX8_bestOf_27 : decode cX8_bestOf 27 = .ok (.iload_n 3, 1) := by decide +kernel
theorem dX8_bestOf_28 : decode cX8_bestOf 28 = .ok (.iaload, 1) := by decide +kernel
theorem dX8_bestOf_29 : decode cX8_bestOf 29 = .ok (.istore 4, 2) := by decide +kernel
theorem dX8_bestOf_31 : decode cX8_bestOf 31 = .ok (.aload_n 0, 1) := by decide +kernel
theorem dX8_bestOf_32 : decode cX8_bestOf 32 = .ok (.getfield 52, 3) := by decide +kernel
theorem dX8_bestOf_35 : decode cX8_bestOf 35 = .ok (.iload 4, 2) := by decide +kernel
theorem dX8_bestOf_37 : decode cX8_bestOf 37 = .ok (.iaload, 1) := by decide +kernel
theorem dX8_bestOf_38 : decode cX8_bestOf 38 = .ok (.aload_n 0, 1) := by decide +kernel
theorem dX8_bestOf_39 : decode cX8_bestOf 39 = .ok (.getfield 52, 3) := by decide +kernel
theorem dX8_bestOf_42 : decode cX8_bestOf 42 = .ok (.iload_n 1, 1) := by decide +kernel
theorem dX8_bestOf_43 : decode cX8_bestOf 43 = .ok (.iaload, 1) := by decide +kernel
theorem dX8_bestOf_44 : decode cX8_bestOf 44 = .ok (.ineg, 1) := by decide +kernel
theorem dX8_bestOf_45 : decode cX8_bestOf 45 = .ok (.if_icmp .ne 7, 3) := by decide +kernel
theorem dX8_bestOf_48 : decode cX8_bestOf 48 = .ok (.iconst 1, 1) := by decide +kernel
theorem dX8_bestOf_49 : decode cX8_bestOf 49 = .ok (.goto 4, 3) := by decide +kernel
theorem dX8_bestOf_52 : decode cX8_bestOf 52 = .ok (.iconst 0, 1) := by decide +kernel
theorem dX8_bestOf_53 : decode cX8_bestOf 53 = .ok (.istore 5, 2) := by decide +kernel
theorem dX8_bestOf_55 : decode cX8_bestOf 55 = .ok (.iload_n 2, 1) := by decide +kernel
theorem dX8_bestOf_56 : decode cX8_bestOf 56 = .ok (.ifCond .ge 7, 3) := by decide +kernel
theorem dX8_bestOf_59 : decode cX8_bestOf 59 = .ok (.iconst 0, 1) := by decide +kernel
theorem dX8_bestOf_60 : decode cX8_bestOf 60 = .ok (.goto 16, 3) := by decide +kernel
theorem dX8_bestOf_63 : decode cX8_bestOf 63 = .ok (.aload_n 0, 1) := by decide +kernel
theorem dX8_bestOf_64 : decode cX8_bestOf 64 = .ok (.getfield 55, 3) := by decide +kernel
theorem dX8_bestOf_67 : decode cX8_bestOf 67 = .ok (.aload_n 0, 1) := by decide +kernel
theorem dX8_bestOf_68 : decode cX8_bestOf 68 = .ok (.getfield 39, 3) := by decide +kernel
theorem dX8_bestOf_71 : decode cX8_bestOf 71 = .ok (.iconst 0, 1) := by decide +kernel
theorem dX8_bestOf_72 : decode cX8_bestOf 72 = .ok (.aaload, 1) := by decide +kernel
theorem dX8_bestOf_73 : decode cX8_bestOf 73 = .ok (.iload_n 2, 1) := by decide +kernel
theorem dX8_bestOf_74 : decode cX8_bestOf 74 = .ok (.iaload, 1) := by decide +kernel
theorem dX8_bestOf_75 : decode cX8_bestOf 75 = .ok (.iaload, 1) := by decide +kernel
theorem dX8_bestOf_76 : decode cX8_bestOf 76 = .ok (.istore 6, 2) := by decide +kernel
theorem dX8_bestOf_78 : decode cX8_bestOf 78 = .ok (.iload_n 2, 1) := by decide +kernel
theorem dX8_bestOf_79 : decode cX8_bestOf 79 = .ok (.ifCond .lt 47, 3) := by decide +kernel
theorem dX8_bestOf_82 : decode cX8_bestOf 82 = .ok (.aload_n 0, 1) := by decide +kernel
theorem dX8_bestOf_83 : decode cX8_bestOf 83 = .ok (.getfield 52, 3) := by decide +kernel
theorem dX8_bestOf_86 : decode cX8_bestOf 86 = .ok (.iload_n 1, 1) := by decide +kernel
theorem dX8_bestOf_87 : decode cX8_bestOf 87 = .ok (.iaload, 1) := by decide +kernel
theorem dX8_bestOf_88 : decode cX8_bestOf 88 = .ok (.iconst 1, 1) := by decide +kernel
theorem dX8_bestOf_89 : decode cX8_bestOf 89 = .ok (.if_icmp .ne 15, 3) := by decide +kernel
theorem dX8_bestOf_92 : decode cX8_bestOf 92 = .ok (.aload_n 0, 1) := by decide +kernel
theorem dX8_bestOf_93 : decode cX8_bestOf 93 = .ok (.getfield 55, 3) := by decide +kernel
theorem dX8_bestOf_96 : decode cX8_bestOf 96 = .ok (.iload 4, 2) := by decide +kernel
theorem dX8_bestOf_98 : decode cX8_bestOf 98 = .ok (.iaload, 1) := by decide +kernel
theorem dX8_bestOf_99 : decode cX8_bestOf 99 = .ok (.iload 6, 2) := by decide +kernel
theorem dX8_bestOf_101 : decode cX8_bestOf 101 = .ok (.if_icmp .lt 25, 3) := by decide +kernel
theorem dX8_bestOf_104 : decode cX8_bestOf 104 = .ok (.aload_n 0, 1) := by decide +kernel
theorem dX8_bestOf_105 : decode cX8_bestOf 105 = .ok (.getfield 52, 3) := by decide +kernel
theorem dX8_bestOf_108 : decode cX8_bestOf 108 = .ok (.iload_n 1, 1) := by decide +kernel
theorem dX8_bestOf_109 : decode cX8_bestOf 109 = .ok (.iaload, 1) := by decide +kernel
theorem dX8_bestOf_110 : decode cX8_bestOf 110 = .ok (.iconst (-1), 1) := by decide +kernel
theorem dX8_bestOf_111 : decode cX8_bestOf 111 = .ok (.if_icmp .ne 19, 3) := by decide +kernel
theorem dX8_bestOf_114 : decode cX8_bestOf 114 = .ok (.aload_n 0, 1) := by decide +kernel
theorem dX8_bestOf_115 : decode cX8_bestOf 115 = .ok (.getfield 55, 3) := by decide +kernel
theorem dX8_bestOf_118 : decode cX8_bestOf 118 = .ok (.iload 4, 2) := by decide +kernel
theorem dX8_bestOf_120 : decode cX8_bestOf 120 = .ok (.iaload, 1) := by decide +kernel
theorem dX8_bestOf_121 : decode cX8_bestOf 121 = .ok (.iload 6, 2) := by decide +kernel
theorem dX8_bestOf_123 : decode cX8_bestOf 123 = .ok (.if_icmp .le 7, 3) := by decide +kernel
theorem dX8_bestOf_126 : decode cX8_bestOf 126 = .ok (.iconst 1, 1) := by decide +kernel
theorem dX8_bestOf_127 : decode cX8_bestOf 127 = .ok (.goto 4, 3) := by decide +kernel
theorem dX8_bestOf_130 : decode cX8_bestOf 130 = .ok (.iconst 0, 1) := by decide +kernel
theorem dX8_bestOf_131 : decode cX8_bestOf 131 = .ok (.istore 7, 2) := by decide +kernel
theorem dX8_bestOf_133 : decode cX8_bestOf 133 = .ok (.iload 5, 2) := by decide +kernel
theorem dX8_bestOf_135 : decode cX8_bestOf 135 = .ok (.ifCond .eq 12, 3) := by decide +kernel
theorem dX8_bestOf_138 : decode cX8_bestOf 138 = .ok (.iload 7, 2) := by decide +kernel
theorem dX8_bestOf_140 : decode cX8_bestOf 140 = .ok (.ifCond .eq 7, 3) := by decide +kernel
theorem dX8_bestOf_143 : decode cX8_bestOf 143 = .ok (.iload_n 3, 1) := by decide +kernel
theorem dX8_bestOf_144 : decode cX8_bestOf 144 = .ok (.goto 4, 3) := by decide +kernel
theorem dX8_bestOf_147 : decode cX8_bestOf 147 = .ok (.iload_n 2, 1) := by decide +kernel
theorem dX8_bestOf_148 : decode cX8_bestOf 148 = .ok (.istore_n 2, 1) := by decide +kernel
theorem dX8_bestOf_149 : decode cX8_bestOf 149 = .ok (.iinc 3 1, 3) := by decide +kernel
theorem dX8_bestOf_152 : decode cX8_bestOf 152 = .ok (.goto (-141), 3) := by decide +kernel
theorem dX8_bestOf_155 : decode cX8_bestOf 155 = .ok (.iload_n 2, 1) := by decide +kernel
theorem dX8_bestOf_156 : decode cX8_bestOf 156 = .ok (.ireturn, 1) := by decide +kernel
theorem dX8_best_0 : decode cX8_best 0 = .ok (.aload_n 0, 1) := by decide +kernel
theorem dX8_best_1 : decode cX8_best 1 = .ok (.invokevirtual 257, 3) := by decide +kernel
theorem dX8_best_4 : decode cX8_best 4 = .ok (.ifCond .eq 14, 3) := by decide +kernel
theorem dX8_best_7 : decode cX8_best 7 = .ok (.aload_n 0, 1) := by decide +kernel
theorem dX8_best_8 : decode cX8_best 8 = .ok (.aload_n 0, 1) := by decide +kernel
theorem dX8_best_9 : decode cX8_best 9 = .ok (.invokevirtual 260, 3) := by decide +kernel
theorem dX8_best_12 : decode cX8_best 12 = .ok (.invokevirtual 275, 3) := by decide +kernel
theorem dX8_best_15 : decode cX8_best 15 = .ok (.goto 5, 3) := by decide +kernel
theorem dX8_best_18 : decode cX8_best 18 = .ok (.bipush (-3), 2) := by decide +kernel
theorem dX8_best_20 : decode cX8_best 20 = .ok (.ireturn, 1) := by decide +kernel
theorem dX8_findLine_0 : decode cX8_findLine 0 = .ok (.aload_n 0, 1) := by decide +kernel
theorem dX8_findLine_1 : decode cX8_findLine 1 = .ok (.getfield 83, 3) := by decide +kernel
theorem dX8_findLine_4 : decode cX8_findLine 4 = .ok (.iconst 0, 1) := by decide +kernel
theorem dX8_findLine_5 : decode cX8_findLine 5 = .ok (.aload_n 0, 1) := by decide +kernel
theorem dX8_findLine_6 : decode cX8_findLine 6 = .ok (.invokevirtual 260, 3) := by decide +kernel
theorem dX8_findLine_9 : decode cX8_findLine 9 = .ok (.iastore, 1) := by decide +kernel
theorem dX8_findLine_10 : decode cX8_findLine 10 = .ok (.iconst 0, 1) := by decide +kernel
theorem dX8_findLine_11 : decode cX8_findLine 11 = .ok (.istore_n 1, 1) := by decide +kernel
theorem dX8_findLine_12 : decode cX8_findLine 12 = .ok (.iconst 1, 1) := by decide +kernel
theorem dX8_findLine_13 : decode cX8_findLine 13 = .ok (.istore_n 2, 1) := by decide +kernel
theorem dX8_findLine_14 : decode cX8_findLine 14 = .ok (.iload_n 2, 1) := by decide +kernel
theorem dX8_findLine_15 : decode cX8_findLine 15 = .ok (.ifCond .eq 101, 3) := by decide +kernel
theorem dX8_findLine_18 : decode cX8_findLine 18 = .ok (.iload_n 1, 1) := by decide +kernel
theorem dX8_findLine_19 : decode cX8_findLine 19 = .ok (.bipush 60, 2) := by decide +kernel
theorem dX8_findLine_21 : decode cX8_findLine 21 = .ok (.if_icmp .ge 95, 3) := by decide +kernel
theorem dX8_findLine_24 : decode cX8_findLine 24 = .ok (.aload_n 0, 1) := by decide +kernel
theorem dX8_findLine_25 : decode cX8_findLine 25 = .ok (.aload_n 0, 1) := by decide +kernel
theorem dX8_findLine_26 : decode cX8_findLine 26 = .ok (.getfield 83, 3) := by decide +kernel
theorem dX8_findLine_29 : decode cX8_findLine 29 = .ok (.iload_n 1, 1) := by decide +kernel
theorem dX8_findLine_30 : decode cX8_findLine 30 = .ok (.iaload, 1) := by decide +kernel
theorem dX8_findLine_31 : decode cX8_findLine 31 = .ok (.invokevirtual 275, 3) := by decide +kernel
theorem dX8_findLine_34 : decode cX8_findLine 34 = .ok (.istore_n 3, 1) := by decide +kernel
theorem dX8_findLine_35 : decode cX8_findLine 35 = .ok (.iload_n 3, 1) := by decide +kernel
theorem dX8_findLine_36 : decode cX8_findLine 36 = .ok (.ifCond .lt 7, 3) := by decide +kernel
theorem dX8_findLine_39 : decode cX8_findLine 39 = .ok (.iconst 1, 1) := by decide +kernel
theorem dX8_findLine_40 : decode cX8_findLine 40 = .ok (.goto 4, 3) := by decide +kernel
theorem dX8_findLine_43 : decode cX8_findLine 43 = .ok (.iconst 0, 1) := by decide +kernel
theorem dX8_findLine_44 : decode cX8_findLine 44 = .ok (.istore_n 2, 1) := by decide +kernel
theorem dX8_findLine_45 : decode cX8_findLine 45 = .ok (.iload_n 2, 1) := by decide +kernel
theorem dX8_findLine_46 : decode cX8_findLine 46 = .ok (.ifCond .eq 14, 3) := by decide +kernel
theorem dX8_findLine_49 : decode cX8_findLine 49 = .ok (.aload_n 0, 1) := by decide +kernel
theorem dX8_findLine_50 : decode cX8_findLine 50 = .ok (.getfield 39, 3) := by decide +kernel
theorem dX8_findLine_53 : decode cX8_findLine 53 = .ok (.iconst 0, 1) := by decide +kernel
theorem dX8_findLine_54 : decode cX8_findLine 54 = .ok (.aaload, 1) := by decide +kernel
theorem dX8_findLine_55 : decode cX8_findLine 55 = .ok (.iload_n 3, 1) := by decide +kernel
theorem dX8_findLine_56 : decode cX8_findLine 56 = .ok (.iaload, 1) := by decide +kernel
theorem dX8_findLine_57 : decode cX8_findLine 57 = .ok (.goto 4, 3) := by decide +kernel
theorem dX8_findLine_60 : decode cX8_findLine 60 = .ok (.iconst 0, 1) := by decide +kernel
theorem dX8_findLine_61 : decode cX8_findLine 61 = .ok (.istore 4, 2) := by decide +kernel
theorem dX8_findLine_63 : decode cX8_findLine 63 = .ok (.iconst 0, 1) := by decide +kernel
theorem dX8_findLine_64 : decode cX8_findLine 64 = .ok (.istore 5, 2) := by decide +kernel
theorem dX8_findLine_66 : decode cX8_findLine 66 = .ok (.iload 5, 2) := by decide +kernel
theorem dX8_findLine_68 : decode cX8_findLine 68 = .ok (.iload_n 1, 1) := by decide +kernel
theorem dX8_findLine_69 : decode cX8_findLine 69 = .ok (.if_icmp .gt 29, 3) := by decide +kernel
theorem dX8_findLine_72 : decode cX8_findLine 72 = .ok (.iload_n 2, 1) := by decide +kernel
theorem dX8_findLine_73 : decode cX8_findLine 73 = .ok (.aload_n 0, 1) := by decide +kernel
theorem dX8_findLine_74 : decode cX8_findLine 74 = .ok (.getfield 83, 3) := by decide +kernel
theorem dX8_findLine_77 : decode cX8_findLine 77 = .ok (.iload 5, 2) := by decide +kernel
theorem dX8_findLine_79 : decode cX8_findLine 79 = .ok (.iaload, 1) := by decide +kernel
theorem dX8_findLine_80 : decode cX8_findLine 80 = .ok (.iload 4, 2) := by decide +kernel
theorem dX8_findLine_82 : decode cX8_findLine 82 = .ok (.if_icmp .eq 7, 3) := by decide +kernel
theorem dX8_findLine_85 : decode cX8_findLine 85 = .ok (.iconst 1, 1) := by decide +kernel
theorem dX8_findLine_86 : decode cX8_findLine 86 = .ok (.goto 4, 3) := by decide +kernel
theorem dX8_findLine_89 : decode cX8_findLine 89 = .ok (.iconst 0, 1) := by decide +kernel
theorem dX8_findLine_90 : decode cX8_findLine 90 = .ok (.iand, 1) := by decide +kernel
theorem dX8_findLine_91 : decode cX8_findLine 91 = .ok (.istore_n 2, 1) := by decide +kernel
theorem dX8_findLine_92 : decode cX8_findLine 92 = .ok (.iinc 5 1, 3) := by decide +kernel
theorem dX8_findLine_95 : decode cX8_findLine 95 = .ok (.goto (-29), 3) := by decide +kernel
theorem dX8_findLine_98 : decode cX8_findLine 98 = .ok (.iload_n 2, 1) := by decide +kernel
theorem dX8_findLine_99 : decode cX8_findLine 99 = .ok (.ifCond .eq 14, 3) := by decide +kernel
theorem dX8_findLine_102 : decode cX8_findLine 102 = .ok (.iinc 1 1, 3) := by decide +kernel
theorem dX8_findLine_105 : decode cX8_findLine 105 = .ok (.aload_n 0, 1) := by decide +kernel
theorem dX8_findLine_106 : decode cX8_findLine 106 = .ok (.getfield 83, 3) := by decide +kernel
theorem dX8_findLine_109 : decode cX8_findLine 109 = .ok (.iload_n 1, 1) := by decide +kernel
theorem dX8_findLine_110 : decode cX8_findLine 110 = .ok (.iload 4, 2) := by decide +kernel
theorem dX8_findLine_112 : decode cX8_findLine 112 = .ok (.iastore, 1) := by decide +kernel
theorem dX8_findLine_113 : decode cX8_findLine 113 = .ok (.goto (-99), 3) := by decide +kernel
theorem dX8_findLine_116 : decode cX8_findLine 116 = .ok (.iload_n 1, 1) := by decide +kernel
theorem dX8_findLine_117 : decode cX8_findLine 117 = .ok (.ireturn, 1) := by decide +kernel
theorem dX8_line_0 : decode cX8_line 0 = .ok (.aload_n 0, 1) := by decide +kernel
theorem dX8_line_1 : decode cX8_line 1 = .ok (.invokevirtual 257, 3) := by decide +kernel
theorem dX8_line_4 : decode cX8_line 4 = .ok (.ifCond .ne 6, 3) := by decide +kernel
theorem dX8_line_7 : decode cX8_line 7 = .ok (.bipush (-3), 2) := by decide +kernel
theorem dX8_line_9 : decode cX8_line 9 = .ok (.ireturn, 1) := by decide +kernel
theorem dX8_line_10 : decode cX8_line 10 = .ok (.aload_n 0, 1) := by decide +kernel
theorem dX8_line_11 : decode cX8_line 11 = .ok (.invokevirtual 278, 3) := by decide +kernel
theorem dX8_line_14 : decode cX8_line 14 = .ok (.istore_n 2, 1) := by decide +kernel
theorem dX8_line_15 : decode cX8_line 15 = .ok (.iload_n 1, 1) := by decide +kernel
theorem dX8_line_16 : decode cX8_line 16 = .ok (.iconst (-1), 1) := by decide +kernel
theorem dX8_line_17 : decode cX8_line 17 = .ok (.if_icmp .ne 5, 3) := by decide +kernel
theorem dX8_line_20 : decode cX8_line 20 = .ok (.iload_n 2, 1) := by decide +kernel
theorem dX8_line_21 : decode cX8_line 21 = .ok (.ireturn, 1) := by decide +kernel
theorem dX8_line_22 : decode cX8_line 22 = .ok (.iload_n 1, 1) := by decide +kernel
theorem dX8_line_23 : decode cX8_line 23 = .ok (.iconst 1, 1) := by decide +kernel
theorem dX8_line_24 : decode cX8_line 24 = .ok (.iload_n 2, 1) := by decide +kernel
theorem dX8_line_25 : decode cX8_line 25 = .ok (.invokestatic 86, 3) := by decide +kernel
theorem dX8_line_28 : decode cX8_line 28 = .ok (.ifCond .eq 12, 3) := by decide +kernel
theorem dX8_line_31 : decode cX8_line 31 = .ok (.aload_n 0, 1) := by decide +kernel
theorem dX8_line_32 : decode cX8_line 32 = .ok (.getfield 83, 3) := by decide +kernel
theorem dX8_line_35 : decode cX8_line 35 = .ok (.iload_n 1, 1) := by decide +kernel
theorem dX8_line_36 : decode cX8_line 36 = .ok (.iaload, 1) := by decide +kernel
theorem dX8_line_37 : decode cX8_line 37 = .ok (.goto 4, 3) := by decide +kernel
theorem dX8_line_40 : decode cX8_line 40 = .ok (.iconst (-1), 1) := by decide +kernel
theorem dX8_line_41 : decode cX8_line 41 = .ok (.ireturn, 1) := by decide +kernel
theorem dX8_searchFrom_0 : decode cX8_searchFrom 0 = .ok (.aload_n 0, 1) := by decide +kernel
theorem dX8_searchFrom_1 : decode cX8_searchFrom 1 = .ok (.iload_n 2, 1) := by decide +kernel
theorem dX8_searchFrom_2 : decode cX8_searchFrom 2 = .ok (.iconst 1, 1) := by decide +kernel
theorem dX8_searchFrom_3 : decode cX8_searchFrom 3 = .ok (.iadd, 1) := by decide +kernel
theorem dX8_searchFrom_4 : decode cX8_searchFrom 4 = .ok (.iload_n 1, 1) := by decide +kernel
theorem dX8_searchFrom_5 : decode cX8_searchFrom 5 = .ok (.invokevirtual 209, 3) := by decide +kernel
theorem dX8_searchFrom_8 : decode cX8_searchFrom 8 = .ok (.aload_n 0, 1) := by decide +kernel
theorem dX8_searchFrom_9 : decode cX8_searchFrom 9 = .ok (.getfield 27, 3) := by decide +kernel
theorem dX8_searchFrom_12 : decode cX8_searchFrom 12 = .ok (.iload_n 2, 1) := by decide +kernel
theorem dX8_searchFrom_13 : decode cX8_searchFrom 13 = .ok (.iconst 1, 1) := by decide +kernel
theorem dX8_searchFrom_14 : decode cX8_searchFrom 14 = .ok (.iadd, 1) := by decide +kernel
theorem dX8_searchFrom_15 : decode cX8_searchFrom 15 = .ok (.iaload, 1) := by decide +kernel
theorem dX8_searchFrom_16 : decode cX8_searchFrom 16 = .ok (.ifCond .ne 12, 3) := by decide +kernel
theorem dX8_searchFrom_19 : decode cX8_searchFrom 19 = .ok (.aload_n 0, 1) := by decide +kernel
theorem dX8_searchFrom_20 : decode cX8_searchFrom 20 = .ok (.iload_n 1, 1) := by decide +kernel
theorem dX8_searchFrom_21 : decode cX8_searchFrom 21 = .ok (.iload_n 2, 1) := by decide +kernel
theorem dX8_searchFrom_22 : decode cX8_searchFrom 22 = .ok (.iconst 1, 1) := by decide +kernel
theorem dX8_searchFrom_23 : decode cX8_searchFrom 23 = .ok (.iadd, 1) := by decide +kernel
theorem dX8_searchFrom_24 : decode cX8_searchFrom 24 = .ok (.invokevirtual 222, 3) := by decide +kernel
theorem dX8_searchFrom_27 : decode cX8_searchFrom 27 = .ok (.ireturn, 1) := by decide +kernel
theorem dX8_searchFrom_28 : decode cX8_searchFrom 28 = .ok (.iload_n 2, 1) := by decide +kernel
theorem dX8_searchFrom_29 : decode cX8_searchFrom 29 = .ok (.ifCond .ne 5, 3) := by decide +kernel
theorem dX8_searchFrom_32 : decode cX8_searchFrom 32 = .ok (.iconst 0, 1) := by decide +kernel
theorem dX8_searchFrom_33 : decode cX8_searchFrom 33 = .ok (.ireturn, 1) := by decide +kernel
theorem dX8_searchFrom_34 : decode cX8_searchFrom 34 = .ok (.iconst (-1), 1) := by decide +kernel
theorem dX8_searchFrom_35 : decode cX8_searchFrom 35 = .ok (.istore_n 3, 1) := by decide +kernel
theorem dX8_searchFrom_36 : decode cX8_searchFrom 36 = .ok (.iconst 0, 1) := by decide +kernel
theorem dX8_searchFrom_37 : decode cX8_searchFrom 37 = .ok (.istore 4, 2) := by decide +kernel
theorem dX8_searchFrom_39 : decode cX8_searchFrom 39 = .ok (.iload 4, 2) := by decide +kernel
theorem dX8_searchFrom_41 : decode cX8_searchFrom 41 = .ok (.aload_n 0, 1) := by decide +kernel
theorem dX8_searchFrom_42 : decode cX8_searchFrom 42 = .ok (.getfield 27, 3) := by decide +kernel
theorem dX8_searchFrom_45 : decode cX8_searchFrom 45 = .ok (.iload_n 2, 1) := by decide +kernel
theorem dX8_searchFrom_46 : decode cX8_searchFrom 46 = .ok (.iconst 1, 1) := by decide +kernel
theorem dX8_searchFrom_47 : decode cX8_searchFrom 47 = .ok (.iadd, 1) := by decide +kernel
theorem dX8_searchFrom_48 : decode cX8_searchFrom 48 = .ok (.iaload, 1) := by decide +kernel
theorem dX8_searchFrom_49 : decode cX8_searchFrom 49 = .ok (.if_icmp .ge 43, 3) := by decide +kernel
theorem dX8_searchFrom_52 : decode cX8_searchFrom 52 = .ok (.aload_n 0, 1) := by decide +kernel
theorem dX8_searchFrom_53 : decode cX8_searchFrom 53 = .ok (.aload_n 0, 1) := by decide +kernel
theorem dX8_searchFrom_54 : decode cX8_searchFrom 54 = .ok (.getfield 39, 3) := by decide +kernel
theorem dX8_searchFrom_57 : decode cX8_searchFrom 57 = .ok (.iload_n 2, 1) := by decide +kernel
theorem dX8_searchFrom_58 : decode cX8_searchFrom 58 = .ok (.iconst 1, 1) := by decide +kernel
theorem dX8_searchFrom_59 : decode cX8_searchFrom 59 = .ok (.iadd, 1) := by decide +kernel
theorem dX8_searchFrom_60 : decode cX8_searchFrom 60 = .ok (.aaload, 1) := by decide +kernel
theorem dX8_searchFrom_61 : decode cX8_searchFrom 61 = .ok (.iload 4, 2) := by decide +kernel
theorem dX8_searchFrom_63 : decode cX8_searchFrom 63 = .ok (.iaload, 1) := by decide +kernel
theorem dX8_searchFrom_64 : decode cX8_searchFrom 64 = .ok (.iload_n 2, 1) := by decide +kernel
theorem dX8_searchFrom_65 : decode cX8_searchFrom 65 = .ok (.iconst 1, 1) := by decide +kernel
theorem dX8_searchFrom_66 : decode cX8_searchFrom 66 = .ok (.isub, 1) := by decide +kernel
theorem dX8_searchFrom_67 : decode cX8_searchFrom 67 = .ok (.invokevirtual 281, 3) := by decide +kernel
theorem dX8_searchFrom_70 : decode cX8_searchFrom 70 = .ok (.ineg, 1) := by decide +kernel
theorem dX8_searchFrom_71 : decode cX8_searchFrom 71 = .ok (.istore 5, 2) := by decide +kernel
theorem dX8_searchFrom_73 : decode cX8_searchFrom 73 = .ok (.iload 5, 2) := by decide +kernel
theorem dX8_searchFrom_75 : decode cX8_searchFrom 75 = .ok (.iload_n 3, 1) := by decide +kernel
theorem dX8_searchFrom_76 : decode cX8_searchFrom 76 = .ok (.if_icmp .le 8, 3) := by decide +kernel
theorem dX8_searchFrom_79 : decode cX8_searchFrom 79 = .ok (.iload 5, 2) := by decide +kernel
theorem dX8_searchFrom_81 : decode cX8_searchFrom 81 = .ok (.goto 4, 3) := by decide +kernel
theorem dX8_searchFrom_84 : decode cX8_searchFrom 84 = .ok (.iload_n 3, 1) := by decide +kernel
theorem dX8_searchFrom_85 : decode cX8_searchFrom 85 = .ok (.istore_n 3, 1) := by decide +kernel
theorem dX8_searchFrom_86 : decode cX8_searchFrom 86 = .ok (.iinc 4 1, 3) := by decide +kernel
theorem dX8_searchFrom_89 : decode cX8_searchFrom 89 = .ok (.goto (-50), 3) := by decide +kernel
theorem dX8_searchFrom_92 : decode cX8_searchFrom 92 = .ok (.iload_n 3, 1) := by decide +kernel
theorem dX8_searchFrom_93 : decode cX8_searchFrom 93 = .ok (.ireturn, 1) := by decide +kernel
theorem dX8_search_0 : decode cX8_search 0 = .ok (.aload_n 0, 1) := by decide +kernel
theorem dX8_search_1 : decode cX8_search 1 = .ok (.invokevirtual 257, 3) := by decide +kernel
theorem dX8_search_4 : decode cX8_search 4 = .ok (.ifCond .ne 6, 3) := by decide +kernel
theorem dX8_search_7 : decode cX8_search 7 = .ok (.bipush (-3), 2) := by decide +kernel
theorem dX8_search_9 : decode cX8_search 9 = .ok (.ireturn, 1) := by decide +kernel
theorem dX8_search_10 : decode cX8_search 10 = .ok (.iload_n 1, 1) := by decide +kernel
theorem dX8_search_11 : decode cX8_search 11 = .ok (.iconst 0, 1) := by decide +kernel
theorem dX8_search_12 : decode cX8_search 12 = .ok (.iconst 4, 1) := by decide +kernel
theorem dX8_search_13 : decode cX8_search 13 = .ok (.invokestatic 86, 3) := by decide +kernel
theorem dX8_search_16 : decode cX8_search 16 = .ok (.ifCond .eq 15, 3) := by decide +kernel
theorem dX8_search_19 : decode cX8_search 19 = .ok (.aload_n 0, 1) := by decide +kernel
theorem dX8_search_20 : decode cX8_search 20 = .ok (.aload_n 0, 1) := by decide +kernel
theorem dX8_search_21 : decode cX8_search 21 = .ok (.invokevirtual 260, 3) := by decide +kernel
theorem dX8_search_24 : decode cX8_search 24 = .ok (.iload_n 1, 1) := by decide +kernel
theorem dX8_search_25 : decode cX8_search 25 = .ok (.invokevirtual 281, 3) := by decide +kernel
theorem dX8_search_28 : decode cX8_search 28 = .ok (.goto 5, 3) := by decide +kernel
theorem dX8_search_31 : decode cX8_search 31 = .ok (.bipush (-2), 2) := by decide +kernel
theorem dX8_search_33 : decode cX8_search 33 = .ok (.ireturn, 1) := by decide +kernel
theorem dX8_hasCaptured_0 : decode cX8_hasCaptured 0 = .ok (.aload_n 0, 1) := by decide +kernel
theorem dX8_hasCaptured_1 : decode cX8_hasCaptured 1 = .ok (.iload_n 1, 1) := by decide +kernel
theorem dX8_hasCaptured_2 : decode cX8_hasCaptured 2 = .ok (.aload_n 0, 1) := by decide +kernel
theorem dX8_hasCaptured_3 : decode cX8_hasCaptured 3 = .ok (.getfield 61, 3) := by decide +kernel
theorem dX8_hasCaptured_6 : decode cX8_hasCaptured 6 = .ok (.invokevirtual 201, 3) := by decide +kernel
theorem dX8_hasCaptured_9 : decode cX8_hasCaptured 9 = .ok (.iconst 0, 1) := by decide +kernel
theorem dX8_hasCaptured_10 : decode cX8_hasCaptured 10 = .ok (.istore_n 2, 1) := by decide +kernel
theorem dX8_hasCaptured_11 : decode cX8_hasCaptured 11 = .ok (.iconst 0, 1) := by decide +kernel
theorem dX8_hasCaptured_12 : decode cX8_hasCaptured 12 = .ok (.istore_n 3, 1) := by decide +kernel
theorem dX8_hasCaptured_13 : decode cX8_hasCaptured 13 = .ok (.iload_n 3, 1) := by decide +kernel
theorem dX8_hasCaptured_14 : decode cX8_hasCaptured 14 = .ok (.aload_n 0, 1) := by decide +kernel
theorem dX8_hasCaptured_15 : decode cX8_hasCaptured 15 = .ok (.getfield 13, 3) := by decide +kernel
theorem dX8_hasCaptured_18 : decode cX8_hasCaptured 18 = .ok (.iconst 2, 1) := by decide +kernel
theorem dX8_hasCaptured_19 : decode cX8_hasCaptured 19 = .ok (.iaload, 1) := by decide +kernel
theorem dX8_hasCaptured_20 : decode cX8_hasCaptured 20 = .ok (.if_icmp .ge 30, 3) := by decide +kernel
theorem dX8_hasCaptured_23 : decode cX8_hasCaptured 23 = .ok (.iload_n 2, 1) := by decide +kernel
theorem dX8_hasCaptured_24 : decode cX8_hasCaptured 24 = .ok (.aload_n 0, 1) := by decide +kernel
theorem dX8_hasCaptured_25 : decode cX8_hasCaptured 25 = .ok (.getfield 61, 3) := by decide +kernel
theorem dX8_hasCaptured_28 : decode cX8_hasCaptured 28 = .ok (.iload_n 3, 1) := by decide +kernel
theorem dX8_hasCaptured_29 : decode cX8_hasCaptured 29 = .ok (.iaload, 1) := by decide +kernel
theorem dX8_hasCaptured_30 : decode cX8_hasCaptured 30 = .ok (.aload_n 0, 1) := by decide +kernel
theorem dX8_hasCaptured_31 : decode cX8_hasCaptured 31 = .ok (.invokevirtual 152, 3) := by decide +kernel
theorem dX8_hasCaptured_34 : decode cX8_hasCaptured 34 = .ok (.if_icmp .ne 7, 3) := by decide +kernel
theorem dX8_hasCaptured_37 : decode cX8_hasCaptured 37 = .ok (.iconst 1, 1) := by decide +kernel
theorem dX8_hasCaptured_38 : decode cX8_hasCaptured 38 = .ok (.goto 4, 3) := by decide +kernel
theorem dX8_hasCaptured_41 : decode cX8_hasCaptured 41 = .ok (.iconst 0, 1) := by decide +kernel
theorem dX8_hasCaptured_42 : decode cX8_hasCaptured 42 = .ok (.ior, 1) := by decide +kernel
theorem dX8_hasCaptured_43 : decode cX8_hasCaptured 43 = .ok (.istore_n 2, 1) := by decide +kernel
theorem dX8_hasCaptured_44 : decode cX8_hasCaptured 44 = .ok (.iinc 3 1, 3) := by decide +kernel
theorem dX8_hasCaptured_47 : decode cX8_hasCaptured 47 = .ok (.goto (-34), 3) := by decide +kernel
theorem dX8_hasCaptured_50 : decode cX8_hasCaptured 50 = .ok (.iload_n 2, 1) := by decide +kernel
theorem dX8_hasCaptured_51 : decode cX8_hasCaptured 51 = .ok (.ireturn, 1) := by decide +kernel
theorem dX8_positions_0 : decode cX8_positions 0 = .ok (.aload_n 0, 1) := by decide +kernel
theorem dX8_positions_1 : decode cX8_positions 1 = .ok (.getfield 146, 3) := by decide +kernel
theorem dX8_positions_4 : decode cX8_positions 4 = .ok (.ifCond .ne 6, 3) := by decide +kernel
theorem dX8_positions_7 : decode cX8_positions 7 = .ok (.bipush (-3), 2) := by decide +kernel
theorem dX8_positions_9 : decode cX8_positions 9 = .ok (.ireturn, 1) := by decide +kernel
theorem dX8_positions_10 : decode cX8_positions 10 = .ok (.iload_n 1, 1) := by decide +kernel
theorem dX8_positions_11 : decode cX8_positions 11 = .ok (.iconst 0, 1) := by decide +kernel
theorem dX8_positions_12 : decode cX8_positions 12 = .ok (.iconst 1, 1) := by decide +kernel
theorem dX8_positions_13 : decode cX8_positions 13 = .ok (.invokestatic 86, 3) := by decide +kernel
theorem dX8_positions_16 : decode cX8_positions 16 = .ok (.ifCond .eq 21, 3) := by decide +kernel
theorem dX8_positions_19 : decode cX8_positions 19 = .ok (.iload_n 2, 1) := by decide +kernel
theorem dX8_positions_20 : decode cX8_positions 20 = .ok (.iconst (-1), 1) := by decide +kernel
theorem dX8_positions_21 : decode cX8_positions 21 = .ok (.iconst 1, 1) := by decide +kernel
theorem dX8_positions_22 : decode cX8_positions 22 = .ok (.invokestatic 86, 3) := by decide +kernel
theorem dX8_positions_25 : decode cX8_positions 25 = .ok (.ifCond .eq 12, 3) := by decide +kernel
theorem dX8_positions_28 : decode cX8_positions 28 = .ok (.iload_n 3, 1) := by decide +kernel
theorem dX8_positions_29 : decode cX8_positions 29 = .ok (.iconst 0, 1) := by decide +kernel
theorem dX8_positions_30 : decode cX8_positions 30 = .ok (.iconst 2, 1) := by decide +kernel
theorem dX8_positions_31 : decode cX8_positions 31 = .ok (.invokestatic 86, 3) := by decide +kernel
theorem dX8_positions_34 : decode cX8_positions 34 = .ok (.ifCond .ne 5, 3) := by decide +kernel
theorem dX8_positions_37 : decode cX8_positions 37 = .ok (.iconst (-1), 1) := by decide +kernel
theorem dX8_positions_38 : decode cX8_positions 38 = .ok (.ireturn, 1) := by decide +kernel
theorem dX8_positions_39 : decode cX8_positions 39 = .ok (.iconst 0, 1) := by decide +kernel
theorem dX8_positions_40 : decode cX8_positions 40 = .ok (.istore 4, 2) := by decide +kernel
theorem dX8_positions_42 : decode cX8_positions 42 = .ok (.iload_n 1, 1) := by decide +kernel
theorem dX8_positions_43 : decode cX8_positions 43 = .ok (.istore 5, 2) := by decide +kernel
theorem dX8_positions_45 : decode cX8_positions 45 = .ok (.iload 5, 2) := by decide +kernel
theorem dX8_positions_47 : decode cX8_positions 47 = .ok (.aload_n 0, 1) := by decide +kernel
theorem dX8_positions_48 : decode cX8_positions 48 = .ok (.getfield 213, 3) := by decide +kernel
theorem dX8_positions_51 : decode cX8_positions 51 = .ok (.if_icmp .ge 76, 3) := by decide +kernel
theorem dX8_positions_54 : decode cX8_positions 54 = .ok (.iload_n 3, 1) := by decide +kernel
theorem dX8_positions_55 : decode cX8_positions 55 = .ok (.iconst 2, 1) := by decide +kernel
theorem dX8_positions_56 : decode cX8_positions 56 = .ok (.if_icmp .eq 22, 3) := by decide +kernel
theorem dX8_positions_59 : decode cX8_positions 59 = .ok (.aload_n 0, 1) := by decide +kernel
theorem dX8_positions_60 : decode cX8_positions 60 = .ok (.iload 5, 2) := by decide +kernel
theorem dX8_positions_62 : decode cX8_positions 62 = .ok (.invokevirtual 284, 3) := by decide +kernel
theorem dX8_positions_65 : decode cX8_positions 65 = .ok (.iload_n 3, 1) := by decide +kernel
theorem dX8_positions_66 : decode cX8_positions 66 = .ok (.iconst 1, 1) := by decide +kernel
theorem dX8_positions_67 : decode cX8_positions 67 = .ok (.if_icmp .ne 7, 3) := by decide +kernel
theorem dX8_positions_70 : decode cX8_positions 70 = .ok (.iconst 1, 1) := by decide +kernel
theorem dX8_positions_71 : decode cX8_positions 71 = .ok (.goto 4, 3) := by decide +kernel
theorem dX8_positions_74 : decode cX8_positions 74 = .ok (.iconst 0, 1) := by decide +kernel
theorem dX8_positions_75 : decode cX8_positions 75 = .ok (.if_icmp .ne 7, 3) := by decide +kernel
theorem dX8_positions_78 : decode cX8_positions 78 = .ok (.iconst 1, 1) := by decide +kernel
theorem dX8_positions_79 : decode cX8_positions 79 = .ok (.goto 4, 3) := by decide +kernel
theorem dX8_positions_82 : decode cX8_positions 82 = .ok (.iconst 0, 1) := by decide +kernel
theorem dX8_positions_83 : decode cX8_positions 83 = .ok (.istore 6, 2) := by decide +kernel
theorem dX8_positions_85 : decode cX8_positions 85 = .ok (.iload 4, 2) := by decide +kernel
theorem dX8_positions_87 : decode cX8_positions 87 = .ok (.aload_n 0, 1) := by decide +kernel
theorem dX8_positions_88 : decode cX8_positions 88 = .ok (.getfield 42, 3) := by decide +kernel
theorem dX8_positions_91 : decode cX8_positions 91 = .ok (.iload 5, 2) := by decide +kernel
theorem dX8_positions_93 : decode cX8_positions 93 = .ok (.baload, 1) := by decide +kernel
theorem dX8_positions_94 : decode cX8_positions 94 = .ok (.ifCond .eq 23, 3) := by decide +kernel
theorem dX8_positions_97 : decode cX8_positions 97 = .ok (.aload_n 0, 1) := by decide +kernel
theorem dX8_positions_98 : decode cX8_positions 98 = .ok (.getfield 52, 3) := by decide +kernel
theorem dX8_positions_101 : decode cX8_positions 101 = .ok (.iload 5, 2) := by decide +kernel
theorem dX8_positions_103 : decode cX8_positions 103 = .ok (.iaload, 1) := by decide +kernel
theorem dX8_positions_104 : decode cX8_positions 104 = .ok (.iload_n 2, 1) := by decide +kernel
theorem dX8_positions_105 : decode cX8_positions 105 = .ok (.if_icmp .ne 12, 3) := by decide +kernel
theorem dX8_positions_108 : decode cX8_positions 108 = .ok (.iload 6, 2) := by decide +kernel
theorem dX8_positions_110 : decode cX8_positions 110 = .ok (.ifCond .eq 7, 3) := by decide +kernel
theorem dX8_positions_113 : decode cX8_positions 113 = .ok (.iconst 1, 1) := by decide +kernel
theorem dX8_positions_114 : decode cX8_positions 114 = .ok (.goto 4, 3) := by decide +kernel
theorem dX8_positions_117 : decode cX8_positions 117 = .ok (.iconst 0, 1) := by decide +kernel
theorem dX8_positions_118 : decode cX8_positions 118 = .ok (.iadd, 1) := by decide +kernel
theorem dX8_positions_119 : decode cX8_positions 119 = .ok (.istore 4, 2) := by decide +kernel
theorem dX8_positions_121 : decode cX8_positions 121 = .ok (.iinc 5 2, 3) := by decide +kernel
theorem dX8_positions_124 : decode cX8_positions 124 = .ok (.goto (-79), 3) := by decide +kernel
theorem dX8_positions_127 : decode cX8_positions 127 = .ok (.iload 4, 2) := by decide +kernel
theorem dX8_positions_129 : decode cX8_positions 129 = .ok (.ireturn, 1) := by decide +kernel
theorem dX8_distanceOf_0 : decode cX8_distanceOf 0 = .ok (.iload_n 1, 1) := by decide +kernel
theorem dX8_distanceOf_1 : decode cX8_distanceOf 1 = .ok (.ifCond .ne 12, 3) := by decide +kernel
theorem dX8_distanceOf_4 : decode cX8_distanceOf 4 = .ok (.aload_n 0, 1) := by decide +kernel
theorem dX8_distanceOf_5 : decode cX8_distanceOf 5 = .ok (.getfield 55, 3) := by decide +kernel
theorem dX8_distanceOf_8 : decode cX8_distanceOf 8 = .ok (.iload_n 2, 1) := by decide +kernel
theorem dX8_distanceOf_9 : decode cX8_distanceOf 9 = .ok (.iaload, 1) := by decide +kernel
theorem dX8_distanceOf_10 : decode cX8_distanceOf 10 = .ok (.goto 9, 3) := by decide +kernel
theorem dX8_distanceOf_13 : decode cX8_distanceOf 13 = .ok (.aload_n 0, 1) := by decide +kernel
theorem dX8_distanceOf_14 : decode cX8_distanceOf 14 = .ok (.getfield 58, 3) := by decide +kernel
theorem dX8_distanceOf_17 : decode cX8_distanceOf 17 = .ok (.iload_n 2, 1) := by decide +kernel
theorem dX8_distanceOf_18 : decode cX8_distanceOf 18 = .ok (.iaload, 1) := by decide +kernel
theorem dX8_distanceOf_19 : decode cX8_distanceOf 19 = .ok (.ireturn, 1) := by decide +kernel
theorem dX8_spread_0 : decode cX8_spread 0 = .ok (.aload_n 0, 1) := by decide +kernel
theorem dX8_spread_1 : decode cX8_spread 1 = .ok (.getfield 146, 3) := by decide +kernel
theorem dX8_spread_4 : decode cX8_spread 4 = .ok (.ifCond .ne 6, 3) := by decide +kernel
theorem dX8_spread_7 : decode cX8_spread 7 = .ok (.bipush (-3), 2) := by decide +kernel
theorem dX8_spread_9 : decode cX8_spread 9 = .ok (.ireturn, 1) := by decide +kernel
theorem dX8_spread_10 : decode cX8_spread 10 = .ok (.iload_n 1, 1) := by decide +kernel
theorem dX8_spread_11 : decode cX8_spread 11 = .ok (.iconst 0, 1) := by decide +kernel
theorem dX8_spread_12 : decode cX8_spread 12 = .ok (.iconst 1, 1) := by decide +kernel
theorem dX8_spread_13 : decode cX8_spread 13 = .ok (.invokestatic 86, 3) := by decide +kernel
theorem dX8_spread_16 : decode cX8_spread 16 = .ok (.ifCond .eq 12, 3) := by decide +kernel
theorem dX8_spread_19 : decode cX8_spread 19 = .ok (.iload_n 2, 1) := by decide +kernel
theorem dX8_spread_20 : decode cX8_spread 20 = .ok (.iconst 0, 1) := by decide +kernel
theorem dX8_spread_21 : decode cX8_spread 21 = .ok (.iconst 1, 1) := by decide +kernel
theorem dX8_spread_22 : decode cX8_spread 22 = .ok (.invokestatic 86, 3) := by decide +kernel
theorem dX8_spread_25 : decode cX8_spread 25 = .ok (.ifCond .ne 5, 3) := by decide +kernel
theorem dX8_spread_28 : decode cX8_spread 28 = .ok (.iconst (-1), 1) := by decide +kernel
theorem dX8_spread_29 : decode cX8_spread 29 = .ok (.ireturn, 1) := by decide +kernel
theorem dX8_spread_30 : decode cX8_spread 30 = .ok (.iload_n 3, 1) := by decide +kernel
theorem dX8_spread_31 : decode cX8_spread 31 = .ok (.ifCond .ge 6, 3) := by decide +kernel
theorem dX8_spread_34 : decode cX8_spread 34 = .ok (.bipush (-2), 2) := by decide +kernel
theorem dX8_spread_36 : decode cX8_spread 36 = .ok (.ireturn, 1) := by decide +kernel
theorem dX8_spread_37 : decode cX8_spread 37 = .ok (.iconst 0, 1) := by decide +kernel
theorem dX8_spread_38 : decode cX8_spread 38 = .ok (.istore 4, 2) := by decide +kernel
theorem dX8_spread_40 : decode cX8_spread 40 = .ok (.iload_n 2, 1) := by decide +kernel
theorem dX8_spread_41 : decode cX8_spread 41 = .ok (.istore 5, 2) := by decide +kernel
theorem dX8_spread_43 : decode cX8_spread 43 = .ok (.iload 5, 2) := by decide +kernel
theorem dX8_spread_45 : decode cX8_spread 45 = .ok (.aload_n 0, 1) := by decide +kernel
theorem dX8_spread_46 : decode cX8_spread 46 = .ok (.getfield 213, 3) := by decide +kernel
theorem dX8_spread_49 : decode cX8_spread 49 = .ok (.if_icmp .ge 40, 3) := by decide +kernel
theorem dX8_spread_52 : decode cX8_spread 52 = .ok (.iload 4, 2) := by decide +kernel
theorem dX8_spread_54 : decode cX8_spread 54 = .ok (.aload_n 0, 1) := by decide +kernel
theorem dX8_spread_55 : decode cX8_spread 55 = .ok (.getfield 42, 3) := by decide +kernel
theorem dX8_spread_58 : decode cX8_spread 58 = .ok (.iload 5, 2) := by decide +kernel
theorem dX8_spread_60 : decode cX8_spread 60 = .ok (.baload, 1) := by decide +kernel
theorem dX8_spread_61 : decode cX8_spread 61 = .ok (.ifCond .eq 18, 3) := by decide +kernel
theorem dX8_spread_64 : decode cX8_spread 64 = .ok (.aload_n 0, 1) := by decide +kernel
theorem dX8_spread_65 : decode cX8_spread 65 = .ok (.iload_n 1, 1) := by decide +kernel
theorem dX8_spread_66 : decode cX8_spread 66 = .ok (.iload 5, 2) := by decide +kernel
theorem dX8_spread_68 : decode cX8_spread 68 = .ok (.invokevirtual 287, 3) := by decide +kernel
theorem dX8_spread_71 : decode cX8_spread 71 = .ok (.iload_n 3, 1) := by decide +kernel
theorem dX8_spread_72 : decode cX8_spread 72 = .ok (.if_icmp .ne 7, 3) := by decide +kernel
theorem dX8_spread_75 : decode cX8_spread 75 = .ok (.iconst 1, 1) := by decide +kernel
theorem dX8_spread_76 : decode cX8_spread 76 = .ok (.goto 4, 3) := by decide +kernel
theorem dX8_spread_79 : decode cX8_spread 79 = .ok (.iconst 0, 1) := by decide +kernel
theorem dX8_spread_80 : decode cX8_spread 80 = .ok (.iadd, 1) := by decide +kernel
theorem dX8_spread_81 : decode cX8_spread 81 = .ok (.istore 4, 2) := by decide +kernel
theorem dX8_spread_83 : decode cX8_spread 83 = .ok (.iinc 5 2, 3) := by decide +kernel
theorem dX8_spread_86 : decode cX8_spread 86 = .ok (.goto (-43), 3) := by decide +kernel
theorem dX8_spread_89 : decode cX8_spread 89 = .ok (.iload 4, 2) := by decide +kernel
theorem dX8_spread_91 : decode cX8_spread 91 = .ok (.ireturn, 1) := by decide +kernel
theorem dX8_longest_0 : decode cX8_longest 0 = .ok (.aload_n 0, 1) := by decide +kernel
theorem dX8_longest_1 : decode cX8_longest 1 = .ok (.getfield 146, 3) := by decide +kernel
theorem dX8_longest_4 : decode cX8_longest 4 = .ok (.ifCond .ne 6, 3) := by decide +kernel
theorem dX8_longest_7 : decode cX8_longest 7 = .ok (.bipush (-3), 2) := by decide +kernel
theorem dX8_longest_9 : decode cX8_longest 9 = .ok (.ireturn, 1) := by decide +kernel
theorem dX8_longest_10 : decode cX8_longest 10 = .ok (.iload_n 1, 1) := by decide +kernel
theorem dX8_longest_11 : decode cX8_longest 11 = .ok (.iconst 0, 1) := by decide +kernel
theorem dX8_longest_12 : decode cX8_longest 12 = .ok (.iconst 1, 1) := by decide +kernel
theorem dX8_longest_13 : decode cX8_longest 13 = .ok (.invokestatic 86, 3) := by decide +kernel
theorem dX8_longest_16 : decode cX8_longest 16 = .ok (.ifCond .eq 12, 3) := by decide +kernel
theorem dX8_longest_19 : decode cX8_longest 19 = .ok (.iload_n 2, 1) := by decide +kernel
theorem dX8_longest_20 : decode cX8_longest 20 = .ok (.iconst 0, 1) := by decide +kernel
theorem dX8_longest_21 : decode cX8_longest 21 = .ok (.iconst 1, 1) := by decide +kernel
theorem dX8_longest_22 : decode cX8_longest 22 = .ok (.invokestatic 86, 3) := by decide +kernel
theorem dX8_longest_25 : decode cX8_longest 25 = .ok (.ifCond .ne 5, 3) := by decide +kernel
theorem dX8_longest_28 : decode cX8_longest 28 = .ok (.iconst (-1), 1) := by decide +kernel
theorem dX8_longest_29 : decode cX8_longest 29 = .ok (.ireturn, 1) := by decide +kernel
theorem dX8_longest_30 : decode cX8_longest 30 = .ok (.bipush (-5), 2) := by decide +kernel
theorem dX8_longest_32 : decode cX8_longest 32 = .ok (.istore_n 3, 1) := by decide +kernel
theorem dX8_longest_33 : decode cX8_longest 33 = .ok (.bipush (-5), 2) := by decide +kernel
theorem dX8_longest_35 : decode cX8_longest 35 = .ok (.istore 4, 2) := by decide +kernel
theorem dX8_longest_37 : decode cX8_longest 37 = .ok (.iconst 0, 1) := by decide +kernel
theorem dX8_longest_38 : decode cX8_longest 38 = .ok (.istore 5, 2) := by decide +kernel
theorem dX8_longest_40 : decode cX8_longest 40 = .ok (.iload 5, 2) := by decide +kernel
theorem dX8_longest_42 : decode cX8_longest 42 = .ok (.aload_n 0, 1) := by decide +kernel
theorem dX8_longest_43 : decode cX8_longest 43 = .ok (.getfield 213, 3) := by decide +kernel
theorem dX8_longest_46 : decode cX8_longest 46 = .ok (.if_icmp .ge 42, 3) := by decide +kernel
theorem dX8_longest_49 : decode cX8_longest 49 = .ok (.aload_n 0, 1) := by decide +kernel
theorem dX8_longest_50 : decode cX8_longest 50 = .ok (.getfield 42, 3) := by decide +kernel
theorem dX8_longest_53 : decode cX8_longest 53 = .ok (.iload 5, 2) := by decide +kernel
theorem dX8_longest_55 : decode cX8_longest 55 = .ok (.baload, 1) := by decide +kernel
theorem dX8_longest_56 : decode cX8_longest 56 = .ok (.ifCond .eq 26, 3) := by decide +kernel
theorem dX8_longest_59 : decode cX8_longest 59 = .ok (.aload_n 0, 1) := by decide +kernel
theorem dX8_longest_60 : decode cX8_longest 60 = .ok (.iload_n 1, 1) := by decide +kernel
theorem dX8_longest_61 : decode cX8_longest 61 = .ok (.iload 5, 2) := by decide +kernel
theorem dX8_longest_63 : decode cX8_longest 63 = .ok (.invokevirtual 287, 3) := by decide +kernel
theorem dX8_longest_66 : decode cX8_longest 66 = .ok (.iload_n 3, 1) := by decide +kernel
theorem dX8_longest_67 : decode cX8_longest 67 = .ok (.if_icmp .le 15, 3) := by decide +kernel
theorem dX8_longest_70 : decode cX8_longest 70 = .ok (.aload_n 0, 1) := by decide +kernel
theorem dX8_longest_71 : decode cX8_longest 71 = .ok (.iload_n 1, 1) := by decide +kernel
theorem dX8_longest_72 : decode cX8_longest 72 = .ok (.iload 5, 2) := by decide +kernel
theorem dX8_longest_74 : decode cX8_longest 74 = .ok (.invokevirtual 287, 3) := by decide +kernel
theorem dX8_longest_77 : decode cX8_longest 77 = .ok (.istore_n 3, 1) := by decide +kernel
theorem dX8_longest_78 : decode cX8_longest 78 = .ok (.iload 5, 2) := by decide +kernel
theorem dX8_longest_80 : decode cX8_longest 80 = .ok (.istore 4, 2) := by decide +kernel
theorem dX8_longest_82 : decode cX8_longest 82 = .ok (.iinc 5 1, 3) := by decide +kernel
theorem dX8_longest_85 : decode cX8_longest 85 = .ok (.goto (-45), 3) := by decide +kernel
theorem dX8_longest_88 : decode cX8_longest 88 = .ok (.iload_n 2, 1) := by decide +kernel
theorem dX8_longest_89 : decode cX8_longest 89 = .ok (.ifCond .ne 7, 3) := by decide +kernel
theorem dX8_longest_92 : decode cX8_longest 92 = .ok (.iload_n 3, 1) := by decide +kernel
theorem dX8_longest_93 : decode cX8_longest 93 = .ok (.goto 5, 3) := by decide +kernel
theorem dX8_longest_96 : decode cX8_longest 96 = .ok (.iload 4, 2) := by decide +kernel
theorem dX8_longest_98 : decode cX8_longest 98 = .ok (.ireturn, 1) := by decide +kernel
theorem dX8_zugzwang_0 : decode cX8_zugzwang 0 = .ok (.aload_n 0, 1) := by decide +kernel
theorem dX8_zugzwang_1 : decode cX8_zugzwang 1 = .ok (.getfield 146, 3) := by decide +kernel
theorem dX8_zugzwang_4 : decode cX8_zugzwang 4 = .ok (.ifCond .ne 6, 3) := by decide +kernel
theorem dX8_zugzwang_7 : decode cX8_zugzwang 7 = .ok (.bipush (-3), 2) := by decide +kernel
theorem dX8_zugzwang_9 : decode cX8_zugzwang 9 = .ok (.ireturn, 1) := by decide +kernel
theorem dX8_zugzwang_10 : decode cX8_zugzwang 10 = .ok (.iconst (-1), 1) := by decide +kernel
theorem dX8_zugzwang_11 : decode cX8_zugzwang 11 = .ok (.istore_n 2, 1) := by decide +kernel
theorem dX8_zugzwang_12 : decode cX8_zugzwang 12 = .ok (.iconst 0, 1) := by decide +kernel
theorem dX8_zugzwang_13 : decode cX8_zugzwang 13 = .ok (.istore_n 3, 1) := by decide +kernel
theorem dX8_zugzwang_14 : decode cX8_zugzwang 14 = .ok (.iconst 0, 1) := by decide +kernel
theorem dX8_zugzwang_15 : decode cX8_zugzwang 15 = .ok (.istore 4, 2) := by decide +kernel
theorem dX8_zugzwang_17 : decode cX8_zugzwang 17 = .ok (.iload 4, 2) := by decide +kernel
theorem dX8_zugzwang_19 : decode cX8_zugzwang 19 = .ok (.aload_n 0, 1) := by decide +kernel
theorem dX8_zugzwang_20 : decode cX8_zugzwang 20 = .ok (.getfield 213, 3) := by decide +kernel
theorem dX8_zugzwang_23 : decode cX8_zugzwang 23 = .ok (.if_icmp .ge 66, 3) := by decide +kernel
theorem dX8_zugzwang_26 : decode cX8_zugzwang 26 = .ok (.aload_n 0, 1) := by decide +kernel
theorem dX8_zugzwang_27 : decode cX8_zugzwang 27 = .ok (.getfield 42, 3) := by decide +kernel
theorem dX8_zugzwang_30 : decode cX8_zugzwang 30 = .ok (.iload 4, 2) := by decide +kernel
theorem dX8_zugzwang_32 : decode cX8_zugzwang 32 = .ok (.baload, 1) := by decide +kernel
theorem dX8_zugzwang_33 : decode cX8_zugzwang 33 = .ok (.ifCond .eq 50, 3) := by decide +kernel
theorem dX8_zugzwang_36 : decode cX8_zugzwang 36 = .ok (.aload_n 0, 1) := by decide +kernel
theorem dX8_zugzwang_37 : decode cX8_zugzwang 37 = .ok (.getfield 42, 3) := by decide +kernel
theorem dX8_zugzwang_40 : decode cX8_zugzwang 40 = .ok (.iload 4, 2) := by decide +kernel
theorem dX8_zugzwang_42 : decode cX8_zugzwang 42 = .ok (.iconst 1, 1) := by decide +kernel
theorem dX8_zugzwang_43 : decode cX8_zugzwang 43 = .ok (.iadd, 1) := by decide +kernel
theorem dX8_zugzwang_44 : decode cX8_zugzwang 44 = .ok (.baload, 1) := by decide +kernel
theorem dX8_zugzwang_45 : decode cX8_zugzwang 45 = .ok (.ifCond .eq 38, 3) := by decide +kernel
theorem dX8_zugzwang_48 : decode cX8_zugzwang 48 = .ok (.aload_n 0, 1) := by decide +kernel
theorem dX8_zugzwang_49 : decode cX8_zugzwang 49 = .ok (.getfield 52, 3) := by decide +kernel
theorem dX8_zugzwang_52 : decode cX8_zugzwang 52 = .ok (.iload 4, 2) := by decide +kernel
theorem dX8_zugzwang_54 : decode cX8_zugzwang 54 = .ok (.iaload, 1) := by decide +kernel
theorem dX8_zugzwang_55 : decode cX8_zugzwang 55 = .ok (.aload_n 0, 1) := by decide +kernel
theorem dX8_zugzwang_56 : decode cX8_zugzwang 56 = .ok (.getfield 52, 3) := by decide +kernel
theorem dX8_zugzwang_59 : decode cX8_zugzwang 59 = .ok (.iload 4, 2) := by decide +kernel
theorem dX8_zugzwang_61 : decode cX8_zugzwang 61 = .ok (.iconst 1, 1) := by decide +kernel
theorem dX8_zugzwang_62 : decode cX8_zugzwang 62 = .ok (.iadd, 1) := by decide +kernel
theorem dX8_zugzwang_63 : decode cX8_zugzwang 63 = .ok (.iaload, 1) := by decide +kernel
theorem dX8_zugzwang_64 : decode cX8_zugzwang 64 = .ok (.ineg, 1) := by decide +kernel
theorem dX8_zugzwang_65 : decode cX8_zugzwang 65 = .ok (.if_icmp .ge 18, 3) := by decide +kernel
theorem dX8_zugzwang_68 : decode cX8_zugzwang 68 = .ok (.iload_n 3, 1) := by decide +kernel
theorem dX8_zugzwang_69 : decode cX8_zugzwang 69 = .ok (.iload_n 1, 1) := by decide +kernel
theorem dX8_zugzwang_70 : decode cX8_zugzwang 70 = .ok (.if_icmp .ne 8, 3) := by decide +kernel
theorem dX8_zugzwang_73 : decode cX8_zugzwang 73 = .ok (.iload 4, 2) := by decide +kernel
theorem dX8_zugzwang_75 : decode cX8_zugzwang 75 = .ok (.goto 4, 3) := by decide +kernel
theorem dX8_zugzwang_78 : decode cX8_zugzwang 78 = .ok (.iload_n 2, 1) := by decide +kernel
theorem dX8_zugzwang_79 : decode cX8_zugzwang 79 = .ok (.istore_n 2, 1) := by decide +kernel
theorem dX8_zugzwang_80 : decode cX8_zugzwang 80 = .ok (.iinc 3 1, 3) := by decide +kernel
theorem dX8_zugzwang_83 : decode cX8_zugzwang 83 = .ok (.iinc 4 2, 3) := by decide +kernel
theorem dX8_zugzwang_86 : decode cX8_zugzwang 86 = .ok (.goto (-69), 3) := by decide +kernel
theorem dX8_zugzwang_89 : decode cX8_zugzwang 89 = .ok (.iload_n 1, 1) := by decide +kernel
theorem dX8_zugzwang_90 : decode cX8_zugzwang 90 = .ok (.iconst (-1), 1) := by decide +kernel
theorem dX8_zugzwang_91 : decode cX8_zugzwang 91 = .ok (.if_icmp .ne 7, 3) := by decide +kernel
theorem dX8_zugzwang_94 : decode cX8_zugzwang 94 = .ok (.iload_n 3, 1) := by decide +kernel
theorem dX8_zugzwang_95 : decode cX8_zugzwang 95 = .ok (.goto 4, 3) := by decide +kernel
theorem dX8_zugzwang_98 : decode cX8_zugzwang 98 = .ok (.iload_n 2, 1) := by decide +kernel
theorem dX8_zugzwang_99 : decode cX8_zugzwang 99 = .ok (.ireturn, 1) := by decide +kernel
theorem dX8_unlike_0 : decode cX8_unlike 0 = .ok (.aload_n 0, 1) := by decide +kernel
theorem dX8_unlike_1 : decode cX8_unlike 1 = .ok (.invokevirtual 257, 3) := by decide +kernel
theorem dX8_unlike_4 : decode cX8_unlike 4 = .ok (.ifCond .ne 6, 3) := by decide +kernel
theorem dX8_unlike_7 : decode cX8_unlike 7 = .ok (.bipush (-3), 2) := by decide +kernel
theorem dX8_unlike_9 : decode cX8_unlike 9 = .ok (.ireturn, 1) := by decide +kernel
theorem dX8_unlike_10 : decode cX8_unlike 10 = .ok (.aload_n 0, 1) := by decide +kernel
theorem dX8_unlike_11 : decode cX8_unlike 11 = .ok (.invokevirtual 260, 3) := by decide +kernel
theorem dX8_unlike_14 : decode cX8_unlike 14 = .ok (.istore_n 1, 1) := by decide +kernel
theorem dX8_unlike_15 : decode cX8_unlike 15 = .ok (.iconst 0, 1) := by decide +kernel
theorem dX8_unlike_16 : decode cX8_unlike 16 = .ok (.istore_n 2, 1) := by decide +kernel
theorem dX8_unlike_17 : decode cX8_unlike 17 = .ok (.iconst 0, 1) := by decide +kernel
theorem dX8_unlike_18 : decode cX8_unlike 18 = .ok (.istore_n 3, 1) := by decide +kernel
theorem dX8_unlike_19 : decode cX8_unlike 19 = .ok (.iload_n 3, 1) := by decide +kernel
theorem dX8_unlike_20 : decode cX8_unlike 20 = .ok (.aload_n 0, 1) := by decide +kernel
theorem dX8_unlike_21 : decode cX8_unlike 21 = .ok (.getfield 213, 3) := by decide +kernel
theorem dX8_unlike_24 : decode cX8_unlike 24 = .ok (.if_icmp .ge 78, 3) := by decide +kernel
theorem dX8_unlike_27 : decode cX8_unlike 27 = .ok (.aload_n 0, 1) := by decide +kernel
theorem dX8_unlike_28 : decode cX8_unlike 28 = .ok (.getfield 42, 3) := by decide +kernel
theorem dX8_unlike_31 : decode cX8_unlike 31 = .ok (.iload_n 3, 1) := by decide +kernel
theorem dX8_unlike_32 : decode cX8_unlike 32 = .ok (.baload, 1) := by decide +kernel
theorem dX8_unlike_33 : decode cX8_unlike 33 = .ok (.ifCond .eq 63, 3) := by decide +kernel
theorem dX8_unlike_36 : decode cX8_unlike 36 = .ok (.aload_n 0, 1) := by decide +kernel
theorem dX8_unlike_37 : decode cX8_unlike 37 = .ok (.iload_n 3, 1) := by decide +kernel
theorem dX8_unlike_38 : decode cX8_unlike 38 = .ok (.invokevirtual 266, 3) := by decide +kernel
theorem dX8_unlike_41 : decode cX8_unlike 41 = .ok (.aload_n 0, 1) := by decide +kernel
theorem dX8_unlike_42 : decode cX8_unlike 42 = .ok (.iload_n 1, 1) := by decide +kernel
theorem dX8_unlike_43 : decode cX8_unlike 43 = .ok (.invokevirtual 266, 3) := by decide +kernel
theorem dX8_unlike_46 : decode cX8_unlike 46 = .ok (.if_icmp .ne 50, 3) := by decide +kernel
theorem dX8_unlike_49 : decode cX8_unlike 49 = .ok (.aload_n 0, 1) := by decide +kernel
theorem dX8_unlike_50 : decode cX8_unlike 50 = .ok (.iload_n 3, 1) := by decide +kernel
theorem dX8_unlike_51 : decode cX8_unlike 51 = .ok (.iconst 2, 1) := by decide +kernel
theorem dX8_unlike_52 : decode cX8_unlike 52 = .ok (.invokevirtual 281, 3) := by decide +kernel
theorem dX8_unlike_55 : decode cX8_unlike 55 = .ok (.istore 4, 2) := by decide +kernel
theorem dX8_unlike_57 : decode cX8_unlike 57 = .ok (.iload_n 2, 1) := by decide +kernel
theorem dX8_unlike_58 : decode cX8_unlike 58 = .ok (.aload_n 0, 1) := by decide +kernel
theorem dX8_unlike_59 : decode cX8_unlike 59 = .ok (.getfield 52, 3) := by decide +kernel
theorem dX8_unlike_62 : decode cX8_unlike 62 = .ok (.iload_n 3, 1) := by decide +kernel
theorem dX8_unlike_63 : decode cX8_unlike 63 = .ok (.iaload, 1) := by decide +kernel
theorem dX8_unlike_64 : decode cX8_unlike 64 = .ok (.aload_n 0, 1) := by decide +kernel
theorem dX8_unlike_65 : decode cX8_unlike 65 = .ok (.getfield 52, 3) := by decide +kernel
theorem dX8_unlike_68 : decode cX8_unlike 68 = .ok (.iload_n 1, 1) := by decide +kernel
theorem dX8_unlike_69 : decode cX8_unlike 69 = .ok (.iaload, 1) := by decide +kernel
theorem dX8_unlike_70 : decode cX8_unlike 70 = .ok (.if_icmp .ne 19, 3) := by decide +kernel
theorem dX8_unlike_73 : decode cX8_unlike 73 = .ok (.iload 4, 2) := by decide +kernel
theorem dX8_unlike_75 : decode cX8_unlike 75 = .ok (.ifCond .eq 18, 3) := by decide +kernel
theorem dX8_unlike_78 : decode cX8_unlike 78 = .ok (.iload 4, 2) := by decide +kernel
theorem dX8_unlike_80 : decode cX8_unlike 80 = .ok (.aload_n 0, 1) := by decide +kernel
theorem dX8_unlike_81 : decode cX8_unlike 81 = .ok (.getfield 52, 3) := by decide +kernel
theorem dX8_unlike_84 : decode cX8_unlike 84 = .ok (.iload_n 3, 1) := by decide +kernel
theorem dX8_unlike_85 : decode cX8_unlike 85 = .ok (.iaload, 1) := by decide +kernel
theorem dX8_unlike_86 : decode cX8_unlike 86 = .ok (.if_icmp .eq 7, 3) := by decide +kernel
theorem dX8_unlike_89 : decode cX8_unlike 89 = .ok (.iconst 1, 1) := by decide +kernel
theorem dX8_unlike_90 : decode cX8_unlike 90 = .ok (.goto 4, 3) := by decide +kernel
theorem dX8_unlike_93 : decode cX8_unlike 93 = .ok (.iconst 0, 1) := by decide +kernel
theorem dX8_unlike_94 : decode cX8_unlike 94 = .ok (.iadd, 1) := by decide +kernel
theorem dX8_unlike_95 : decode cX8_unlike 95 = .ok (.istore_n 2, 1) := by decide +kernel
theorem dX8_unlike_96 : decode cX8_unlike 96 = .ok (.iinc 3 1, 3) := by decide +kernel
theorem dX8_unlike_99 : decode cX8_unlike 99 = .ok (.goto (-80), 3) := by decide +kernel
theorem dX8_unlike_102 : decode cX8_unlike 102 = .ok (.iload_n 2, 1) := by decide +kernel
theorem dX8_unlike_103 : decode cX8_unlike 103 = .ok (.ireturn, 1) := by decide +kernel
theorem dX8_image_0 : decode cX8_image 0 = .ok (.aload_n 0, 1) := by decide +kernel
theorem dX8_image_1 : decode cX8_image 1 = .ok (.iconst 1, 1) := by decide +kernel
theorem dX8_image_2 : decode cX8_image 2 = .ok (.putfield 290, 3) := by decide +kernel
theorem dX8_image_5 : decode cX8_image 5 = .ok (.aload_n 0, 1) := by decide +kernel
theorem dX8_image_6 : decode cX8_image 6 = .ok (.aload_n 0, 1) := by decide +kernel
theorem dX8_image_7 : decode cX8_image 7 = .ok (.getfield 146, 3) := by decide +kernel
theorem dX8_image_10 : decode cX8_image 10 = .ok (.putfield 293, 3) := by decide +kernel
theorem dX8_image_13 : decode cX8_image 13 = .ok (.aload_n 0, 1) := by decide +kernel
theorem dX8_image_14 : decode cX8_image 14 = .ok (.getfield 13, 3) := by decide +kernel
theorem dX8_image_17 : decode cX8_image 17 = .ok (.aload_n 0, 1) := by decide +kernel
theorem dX8_image_18 : decode cX8_image 18 = .ok (.getfield 19, 3) := by decide +kernel
theorem dX8_image_21 : decode cX8_image 21 = .ok (.invokestatic 142, 3) := by decide +kernel
theorem dX8_image_24 : decode cX8_image 24 = .ok (.aload_n 0, 1) := by decide +kernel
theorem dX8_image_25 : decode cX8_image 25 = .ok (.aload_n 0, 1) := by decide +kernel
theorem dX8_image_26 : decode cX8_image 26 = .ok (.getfield 67, 3) := by decide +kernel
theorem dX8_image_29 : decode cX8_image 29 = .ok (.putfield 296, 3) := by decide +kernel
theorem dX8_image_32 : decode cX8_image 32 = .ok (.iconst 0, 1) := by decide +kernel
theorem dX8_image_33 : decode cX8_image 33 = .ok (.istore_n 1, 1) := by decide +kernel
theorem dX8_image_34 : decode cX8_image 34 = .ok (.iload_n 1, 1) := by decide +kernel
theorem dX8_image_35 : decode cX8_image 35 = .ok (.bipush 40, 2) := by decide +kernel
theorem dX8_image_37 : decode cX8_image 37 = .ok (.if_icmp .gt 33, 3) := by decide +kernel
theorem dX8_image_40 : decode cX8_image 40 = .ok (.aload_n 0, 1) := by decide +kernel
theorem dX8_image_41 : decode cX8_image 41 = .ok (.getfield 74, 3) := by decide +kernel
theorem dX8_image_44 : decode cX8_image 44 = .ok (.iload_n 1, 1) := by decide +kernel
theorem dX8_image_45 : decode cX8_image 45 = .ok (.aload_n 0, 1) := by decide +kernel
theorem dX8_image_46 : decode cX8_image 46 = .ok (.getfield 71, 3) := by decide +kernel
theorem dX8_image_49 : decode cX8_image 49 = .ok (.iload_n 1, 1) := by decide +kernel
theorem dX8_image_50 : decode cX8_image 50 = .ok (.iaload, 1) := by decide +kernel
theorem dX8_image_51 : decode cX8_image 51 = .ok (.iastore, 1) := by decide +kernel
theorem dX8_image_52 : decode cX8_image 52 = .ok (.aload_n 0, 1) := by decide +kernel
theorem dX8_image_53 : decode cX8_image 53 = .ok (.getfield 80, 3) := by decide +kernel
theorem dX8_image_56 : decode cX8_image 56 = .ok (.iload_n 1, 1) := by decide +kernel
theorem dX8_image_57 : decode cX8_image 57 = .ok (.aload_n 0, 1) := by decide +kernel
theorem dX8_image_58 : decode cX8_image 58 = .ok (.getfield 77, 3) := by decide +kernel
theorem dX8_image_61 : decode cX8_image 61 = .ok (.iload_n 1, 1) := by decide +kernel
theorem dX8_image_62 : decode cX8_image 62 = .ok (.baload, 1) := by decide +kernel
theorem dX8_image_63 : decode cX8_image 63 = .ok (.bastore, 1) := by decide +kernel
theorem dX8_image_64 : decode cX8_image 64 = .ok (.iinc 1 1, 3) := by decide +kernel
theorem dX8_image_67 : decode cX8_image 67 = .ok (.goto (-33), 3) := by decide +kernel
theorem dX8_image_70 : decode cX8_image 70 = .ok (.aload_n 0, 1) := by decide +kernel
theorem dX8_image_71 : decode cX8_image 71 = .ok (.getfield 146, 3) := by decide +kernel
theorem dX8_image_74 : decode cX8_image 74 = .ok (.ifCond .eq 7, 3) := by decide +kernel
theorem dX8_image_77 : decode cX8_image 77 = .ok (.iconst 1, 1) := by decide +kernel
theorem dX8_image_78 : decode cX8_image 78 = .ok (.goto 4, 3) := by decide +kernel
theorem dX8_image_81 : decode cX8_image 81 = .ok (.iconst 0, 1) := by decide +kernel
theorem dX8_image_82 : decode cX8_image 82 = .ok (.ireturn, 1) := by decide +kernel
theorem dX8_undo_0 : decode cX8_undo 0 = .ok (.aload_n 0, 1) := by decide +kernel
theorem dX8_undo_1 : decode cX8_undo 1 = .ok (.getfield 290, 3) := by decide +kernel
theorem dX8_undo_4 : decode cX8_undo 4 = .ok (.ifCond .ne 6, 3) := by decide +kernel
theorem dX8_undo_7 : decode cX8_undo 7 = .ok (.bipush (-3), 2) := by decide +kernel
theorem dX8_undo_9 : decode cX8_undo 9 = .ok (.ireturn, 1) := by decide +kernel
theorem dX8_undo_10 : decode cX8_undo 10 = .ok (.aload_n 0, 1) := by decide +kernel
theorem dX8_undo_11 : decode cX8_undo 11 = .ok (.aload_n 0, 1) := by decide +kernel
theorem dX8_undo_12 : decode cX8_undo 12 = .ok (.getfield 293, 3) := by decide +kernel
theorem dX8_undo_15 : decode cX8_undo 15 = .ok (.putfield 146, 3) := by decide +kernel
theorem dX8_undo_18 : decode cX8_undo 18 = .ok (.aload_n 0, 1) := by decide +kernel
theorem dX8_undo_19 : decode cX8_undo 19 = .ok (.getfield 19, 3) := by decide +kernel
theorem dX8_undo_22 : decode cX8_undo 22 = .ok (.aload_n 0, 1) := by decide +kernel
theorem dX8_undo_23 : decode cX8_undo 23 = .ok (.getfield 13, 3) := by decide +kernel
theorem dX8_undo_26 : decode cX8_undo 26 = .ok (.invokestatic 142, 3) := by decide +kernel
theorem dX8_undo_29 : decode cX8_undo 29 = .ok (.aload_n 0, 1) := by decide +kernel
theorem dX8_undo_30 : decode cX8_undo 30 = .ok (.getfield 146, 3) := by decide +kernel
theorem dX8_undo_33 : decode cX8_undo 33 = .ok (.ifCond .eq 7, 3) := by decide +kernel
theorem dX8_undo_36 : decode cX8_undo 36 = .ok (.aload_n 0, 1) := by decide +kernel
theorem dX8_undo_37 : decode cX8_undo 37 = .ok (.invokevirtual 149, 3) := by decide +kernel
theorem dX8_undo_40 : decode cX8_undo 40 = .ok (.aload_n 0, 1) := by decide +kernel
theorem dX8_undo_41 : decode cX8_undo 41 = .ok (.aload_n 0, 1) := by decide +kernel
theorem dX8_undo_42 : decode cX8_undo 42 = .ok (.getfield 296, 3) := by decide +kernel
theorem dX8_undo_45 : decode cX8_undo 45 = .ok (.putfield 67, 3) := by decide +kernel
theorem dX8_undo_48 : decode cX8_undo 48 = .ok (.iconst 0, 1) := by decide +kernel
theorem dX8_undo_49 : decode cX8_undo 49 = .ok (.istore_n 1, 1) := by decide +kernel
theorem dX8_undo_50 : decode cX8_undo 50 = .ok (.iload_n 1, 1) := by decide +kernel
theorem dX8_undo_51 : decode cX8_undo 51 = .ok (.bipush 40, 2) := by decide +kernel
theorem dX8_undo_53 : decode cX8_undo 53 = .ok (.if_icmp .gt 33, 3) := by decide +kernel
theorem dX8_undo_56 : decode cX8_undo 56 = .ok (.aload_n 0, 1) := by decide +kernel
theorem dX8_undo_57 : decode cX8_undo 57 = .ok (.getfield 71, 3) := by decide +kernel
theorem dX8_undo_60 : decode cX8_undo 60 = .ok (.iload_n 1, 1) := by decide +kernel
theorem dX8_undo_61 : decode cX8_undo 61 = .ok (.aload_n 0, 1) := by decide +kernel
theorem dX8_undo_62 : decode cX8_undo 62 = .ok (.getfield 74, 3) := by decide +kernel
theorem dX8_undo_65 : decode cX8_undo 65 = .ok (.iload_n 1, 1) := by decide +kernel
theorem dX8_undo_66 : decode cX8_undo 66 = .ok (.iaload, 1) := by decide +kernel
theorem dX8_undo_67 : decode cX8_undo 67 = .ok (.iastore, 1) := by decide +kernel
theorem dX8_undo_68 : decode cX8_undo 68 = .ok (.aload_n 0, 1) := by decide +kernel
theorem dX8_undo_69 : decode cX8_undo 69 = .ok (.getfield 77, 3) := by decide +kernel
theorem dX8_undo_72 : decode cX8_undo 72 = .ok (.iload_n 1, 1) := by decide +kernel
theorem dX8_undo_73 : decode cX8_undo 73 = .ok (.aload_n 0, 1) := by decide +kernel
theorem dX8_undo_74 : decode cX8_undo 74 = .ok (.getfield 80, 3) := by decide +kernel
theorem dX8_undo_77 : decode cX8_undo 77 = .ok (.iload_n 1, 1) := by decide +kernel
theorem dX8_undo_78 : decode cX8_undo 78 = .ok (.baload, 1) := by decide +kernel
theorem dX8_undo_79 : decode cX8_undo 79 = .ok (.bastore, 1) := by decide +kernel
theorem dX8_undo_80 : decode cX8_undo 80 = .ok (.iinc 1 1, 3) := by decide +kernel
theorem dX8_undo_83 : decode cX8_undo 83 = .ok (.goto (-33), 3) := by decide +kernel
theorem dX8_undo_86 : decode cX8_undo 86 = .ok (.aload_n 0, 1) := by decide +kernel
theorem dX8_undo_87 : decode cX8_undo 87 = .ok (.getfield 146, 3) := by decide +kernel
theorem dX8_undo_90 : decode cX8_undo 90 = .ok (.ifCond .eq 7, 3) := by decide +kernel
theorem dX8_undo_93 : decode cX8_undo 93 = .ok (.iconst 1, 1) := by decide +kernel
theorem dX8_undo_94 : decode cX8_undo 94 = .ok (.goto 4, 3) := by decide +kernel
theorem dX8_undo_97 : decode cX8_undo 97 = .ok (.iconst 0, 1) := by decide +kernel
theorem dX8_undo_98 : decode cX8_undo 98 = .ok (.ireturn, 1) := by decide +kernel
theorem dX8_countDifferent_0 : decode cX8_countDifferent 0 = .ok (.iconst 0, 1) := by decide +kernel
theorem dX8_countDifferent_1 : decode cX8_countDifferent 1 = .ok (.istore_n 1, 1) := by decide +kernel
theorem dX8_countDifferent_2 : decode cX8_countDifferent 2 = .ok (.iconst 0, 1) := by decide +kernel
theorem dX8_countDifferent_3 : decode cX8_countDifferent 3 = .ok (.istore_n 2, 1) := by decide +kernel
theorem dX8_countDifferent_4 : decode cX8_countDifferent 4 = .ok (.iload_n 2, 1) := by decide +kernel
theorem dX8_countDifferent_5 : decode cX8_countDifferent 5 = .ok (.aload_n 0, 1) := by decide +kernel
theorem dX8_countDifferent_6 : decode cX8_countDifferent 6 = .ok (.getfield 67, 3) := by decide +kernel
theorem dX8_countDifferent_9 : decode cX8_countDifferent 9 = .ok (.if_icmp .gt 62, 3) := by decide +kernel
theorem dX8_countDifferent_12 : decode cX8_countDifferent 12 = .ok (.iconst 1, 1) := by decide +kernel
theorem dX8_countDifferent_13 : decode cX8_countDifferent 13 = .ok (.istore_n 3, 1) := by decide +kernel
theorem dX8_countDifferent_14 : decode cX8_countDifferent 14 = .ok (.iconst 0, 1) := by decide +kernel
theorem dX8_countDifferent_15 : decode cX8_countDifferent 15 = .ok (.istore 4, 2) := by decide +kernel
theorem dX8_countDifferent_17 : decode cX8_countDifferent 17 = .ok (.iload 4, 2) := by decide +kernel
theorem dX8_countDifferent_19 : decode cX8_countDifferent 19 = .ok (.iload_n 2, 1) := by decide +kernel
theorem dX8_countDifferent_20 : decode cX8_countDifferent 20 = .ok (.if_icmp .ge 33, 3) := by decide +kernel
theorem dX8_countDifferent_23 : decode cX8_countDifferent 23 = .ok (.iload_n 3, 1) := by decide +kernel
theorem dX8_countDifferent_24 : decode cX8_countDifferent 24 = .ok (.aload_n 0, 1) := by decide +kernel
theorem dX8_countDifferent_25 : decode cX8_countDifferent 25 = .ok (.getfield 71, 3) := by decide +kernel
theorem dX8_countDifferent_28 : decode cX8_countDifferent 28 = .ok (.iload 4, 2) := by decide +kernel
theorem dX8_countDifferent_30 : decode cX8_countDifferent 30 = .ok (.iaload, 1) := by decide +kernel
theorem dX8_countDifferent_31 : decode cX8_countDifferent 31 = .ok (.aload_n 0, 1) := by decide +kernel
theorem dX8_countDifferent_32 : decode cX8_countDifferent 32 = .ok (.getfield 71, 3) := by decide +kernel
theorem dX8_countDifferent_35 : decode cX8_countDifferent 35 = .ok (.iload_n 2, 1) := by decide +kernel
theorem dX8_countDifferent_36 : decode cX8_countDifferent 36 = .ok (.iaload, 1) := by decide +kernel
theorem dX8_countDifferent_37 : decode cX8_countDifferent 37 = .ok (.if_icmp .eq 7, 3) := by decide +kernel
theorem dX8_countDifferent_40 : decode cX8_countDifferent 40 = .ok (.iconst 1, 1) := by decide +kernel
theorem dX8_countDifferent_41 : decode cX8_countDifferent 41 = .ok (.goto 4, 3) := by decide +kernel
theorem dX8_countDifferent_44 : decode cX8_countDifferent 44 = .ok (.iconst 0, 1) := by decide +kernel
theorem dX8_countDifferent_45 : decode cX8_countDifferent 45 = .ok (.iand, 1) := by decide +kernel
theorem dX8_countDifferent_46 : decode cX8_countDifferent 46 = .ok (.istore_n 3, 1) := by decide +kernel
theorem dX8_countDifferent_47 : decode cX8_countDifferent 47 = .ok (.iinc 4 1, 3) := by decide +kernel
theorem dX8_countDifferent_50 : decode cX8_countDifferent 50 = .ok (.goto (-33), 3) := by decide +kernel
theorem dX8_countDifferent_53 : decode cX8_countDifferent 53 = .ok (.iload_n 1, 1) := by decide +kernel
theorem dX8_countDifferent_54 : decode cX8_countDifferent 54 = .ok (.iload_n 3, 1) := by decide +kernel
theorem dX8_countDifferent_55 : decode cX8_countDifferent 55 = .ok (.ifCond .eq 7, 3) := by decide +kernel
theorem dX8_countDifferent_58 : decode cX8_countDifferent 58 = .ok (.iconst 1, 1) := by decide +kernel
theorem dX8_countDifferent_59 : decode cX8_countDifferent 59 = .ok (.goto 4, 3) := by decide +kernel
theorem dX8_countDifferent_62 : decode cX8_countDifferent 62 = .ok (.iconst 0, 1) := by decide +kernel
theorem dX8_countDifferent_63 : decode cX8_countDifferent 63 = .ok (.iadd, 1) := by decide +kernel
theorem dX8_countDifferent_64 : decode cX8_countDifferent 64 = .ok (.istore_n 1, 1) := by decide +kernel
theorem dX8_countDifferent_65 : decode cX8_countDifferent 65 = .ok (.iinc 2 1, 3) := by decide +kernel
theorem dX8_countDifferent_68 : decode cX8_countDifferent 68 = .ok (.goto (-64), 3) := by decide +kernel
theorem dX8_countDifferent_71 : decode cX8_countDifferent 71 = .ok (.iload_n 1, 1) := by decide +kernel
theorem dX8_countDifferent_72 : decode cX8_countDifferent 72 = .ok (.ireturn, 1) := by decide +kernel
theorem dX8_countSinceCapture_0 : decode cX8_countSinceCapture 0 = .ok (.iconst 0, 1) := by decide +kernel
theorem dX8_countSinceCapture_1 : decode cX8_countSinceCapture 1 = .ok (.istore_n 1, 1) := by decide +kernel
theorem dX8_countSinceCapture_2 : decode cX8_countSinceCapture 2 = .ok (.iload_n 1, 1) := by decide +kernel
theorem dX8_countSinceCapture_3 : decode cX8_countSinceCapture 3 = .ok (.aload_n 0, 1) := by decide +kernel
theorem dX8_countSinceCapture_4 : decode cX8_countSinceCapture 4 = .ok (.getfield 67, 3) := by decide +kernel
theorem dX8_countSinceCapture_7 : decode cX8_countSinceCapture 7 = .ok (.if_icmp .ge 23, 3) := by decide +kernel
theorem dX8_countSinceCapture_10 : decode cX8_countSinceCapture 10 = .ok (.aload_n 0, 1) := by decide +kernel
theorem dX8_countSinceCapture_11 : decode cX8_countSinceCapture 11 = .ok (.getfield 77, 3) := by decide +kernel
theorem dX8_countSinceCapture_14 : decode cX8_countSinceCapture 14 = .ok (.aload_n 0, 1) := by decide +kernel
theorem dX8_countSinceCapture_15 : decode cX8_countSinceCapture 15 = .ok (.getfield 67, 3) := by decide +kernel
theorem dX8_countSinceCapture_18 : decode cX8_countSinceCapture 18 = .ok (.iload_n 1, 1) := by decide +kernel
theorem dX8_countSinceCapture_19 : decode cX8_countSinceCapture 19 = .ok (.isub, 1) := by decide +kernel
theorem dX8_countSinceCapture_20 : decode cX8_countSinceCapture 20 = .ok (.baload, 1) := by decide +kernel
theorem dX8_countSinceCapture_21 : decode cX8_countSinceCapture 21 = .ok (.ifCond .ne 9, 3) := by decide +kernel
theorem dX8_countSinceCapture_24 : decode cX8_countSinceCapture 24 = .ok (.iinc 1 1, 3) := by decide +kernel
theorem dX8_countSinceCapture_27 : decode cX8_countSinceCapture 27 = .ok (.goto (-25), 3) := by decide +kernel
theorem dX8_countSinceCapture_30 : decode cX8_countSinceCapture 30 = .ok (.iload_n 1, 1) := by decide +kernel
theorem dX8_countSinceCapture_31 : decode cX8_countSinceCapture 31 = .ok (.ireturn, 1) := by decide +kernel
theorem dX8_count_0 : decode cX8_count 0 = .ok (.iload_n 1, 1) := by decide +kernel
theorem dX8_count_1 : decode cX8_count 1 = .ok (.tableswitch 104 0 4 #[35, 51, 56, 72, 88], 35) := by decide +kernel
theorem dX8_count_36 : decode cX8_count 36 = .ok (.aload_n 0, 1) := by decide +kernel
theorem dX8_count_37 : decode cX8_count 37 = .ok (.invokevirtual 257, 3) := by decide +kernel
theorem dX8_count_40 : decode cX8_count 40 = .ok (.ifCond .eq 10, 3) := by decide +kernel
theorem dX8_count_43 : decode cX8_count 43 = .ok (.aload_n 0, 1) := by decide +kernel
theorem dX8_count_44 : decode cX8_count 44 = .ok (.getfield 67, 3) := by decide +kernel
theorem dX8_count_47 : decode cX8_count 47 = .ok (.goto 4, 3) := by decide +kernel
theorem dX8_count_50 : decode cX8_count 50 = .ok (.iconst 0, 1) := by decide +kernel
theorem dX8_count_51 : decode cX8_count 51 = .ok (.ireturn, 1) := by decide +kernel
theorem dX8_count_52 : decode cX8_count 52 = .ok (.aload_n 0, 1) := by decide +kernel
theorem dX8_count_53 : decode cX8_count 53 = .ok (.getfield 94, 3) := by decide +kernel
theorem dX8_count_56 : decode cX8_count 56 = .ok (.ireturn, 1) := by decide +kernel
theorem dX8_count_57 : decode cX8_count 57 = .ok (.aload_n 0, 1) := by decide +kernel
theorem dX8_count_58 : decode cX8_count 58 = .ok (.invokevirtual 257, 3) := by decide +kernel
theorem dX8_count_61 : decode cX8_count 61 = .ok (.ifCond .eq 10, 3) := by decide +kernel
theorem dX8_count_64 : decode cX8_count 64 = .ok (.aload_n 0, 1) := by decide +kernel
theorem dX8_count_65 : decode cX8_count 65 = .ok (.invokevirtual 272, 3) := by decide +kernel
theorem dX8_count_68 : decode cX8_count 68 = .ok (.goto 4, 3) := by decide +kernel
theorem dX8_count_71 : decode cX8_count 71 = .ok (.iconst 0, 1) := by decide +kernel
theorem dX8_count_72 : decode cX8_count 72 = .ok (.ireturn, 1) := by decide +kernel
theorem dX8_count_73 : decode cX8_count 73 = .ok (.aload_n 0, 1) := by decide +kernel
theorem dX8_count_74 : decode cX8_count 74 = .ok (.invokevirtual 257, 3) := by decide +kernel
theorem dX8_count_77 : decode cX8_count 77 = .ok (.ifCond .eq 10, 3) := by decide +kernel
theorem dX8_count_80 : decode cX8_count 80 = .ok (.aload_n 0, 1) := by decide +kernel
theorem dX8_count_81 : decode cX8_count 81 = .ok (.invokevirtual 299, 3) := by decide +kernel
theorem dX8_count_84 : decode cX8_count 84 = .ok (.goto 4, 3) := by decide +kernel
theorem dX8_count_87 : decode cX8_count 87 = .ok (.iconst 0, 1) := by decide +kernel
theorem dX8_count_88 : decode cX8_count 88 = .ok (.ireturn, 1) := by decide +kernel
theorem dX8_count_89 : decode cX8_count 89 = .ok (.aload_n 0, 1) := by decide +kernel
theorem dX8_count_90 : decode cX8_count 90 = .ok (.invokevirtual 257, 3) := by decide +kernel
theorem dX8_count_93 : decode cX8_count 93 = .ok (.ifCond .eq 10, 3) := by decide +kernel
theorem dX8_count_96 : decode cX8_count 96 = .ok (.aload_n 0, 1) := by decide +kernel
theorem dX8_count_97 : decode cX8_count 97 = .ok (.invokevirtual 302, 3) := by decide +kernel
theorem dX8_count_100 : decode cX8_count 100 = .ok (.goto 4, 3) := by decide +kernel
theorem dX8_count_103 : decode cX8_count 103 = .ok (.iconst 0, 1) := by decide +kernel
theorem dX8_count_104 : decode cX8_count 104 = .ok (.ireturn, 1) := by decide +kernel
theorem dX8_count_105 : decode cX8_count 105 = .ok (.iconst (-1), 1) := by decide +kernel
theorem dX8_count_106 : decode cX8_count 106 = .ok (.ireturn, 1) := by decide +kernel
